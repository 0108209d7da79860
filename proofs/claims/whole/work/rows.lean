section
-- ===== PART A: goes FIRST, ahead of the names: the tables' words, and 'selects' of the private methods out of them =====
/-- a private method of a class that the tables say can be made, by its rows of tables_1 -/
def lw_okq (q : MethodName × Nat) : Prop := (q.1.cls ≠ "java/lang/invoke/MethodHandle" ∧ q.1.cls ≠ "java/lang/invoke/VarHandle") ∧ Cond.instantiable q.1.cls q.2 ∈ tables_1 ∧ Cond.privateMethod q.1 ∈ tables_1 ∧ Cond.instanceMethod q.1 ∈ tables_1
theorem lw_p0 : lw_okq (⟨"DrumPlacer$Tokens", "skipBlanks", "()V"⟩, 7) := ⟨⟨by decide +kernel, by decide +kernel⟩, List.mem_of_getElem? (i := 250) (by decide +kernel), List.mem_of_getElem? (i := 464) (by decide +kernel), List.mem_of_getElem? (i := 465) (by decide +kernel)⟩
theorem lw_p1 : lw_okq (⟨"DrumPlacer$Tokens", "takeLetters", "()V"⟩, 7) := ⟨⟨by decide +kernel, by decide +kernel⟩, List.mem_of_getElem? (i := 250) (by decide +kernel), List.mem_of_getElem? (i := 478) (by decide +kernel), List.mem_of_getElem? (i := 479) (by decide +kernel)⟩
theorem lw_p2 : lw_okq (⟨"DrumPlacer$Tokens", "takeDigits", "()V"⟩, 7) := ⟨⟨by decide +kernel, by decide +kernel⟩, List.mem_of_getElem? (i := 250) (by decide +kernel), List.mem_of_getElem? (i := 485) (by decide +kernel), List.mem_of_getElem? (i := 486) (by decide +kernel)⟩
theorem lw_p3 : lw_okq (⟨"DrumPlacer$Reader", "goesOn", "()Z"⟩, 8) := ⟨⟨by decide +kernel, by decide +kernel⟩, List.mem_of_getElem? (i := 244) (by decide +kernel), List.mem_of_getElem? (i := 493) (by decide +kernel), List.mem_of_getElem? (i := 494) (by decide +kernel)⟩
theorem lw_p4 : lw_okq (⟨"DrumPlacer$Reader", "readDrum", "(LDrumPlacer$Plan;)V"⟩, 8) := ⟨⟨by decide +kernel, by decide +kernel⟩, List.mem_of_getElem? (i := 244) (by decide +kernel), List.mem_of_getElem? (i := 497) (by decide +kernel), List.mem_of_getElem? (i := 498) (by decide +kernel)⟩
theorem lw_p5 : lw_okq (⟨"DrumPlacer$Reader", "takeWord", "(Ljava/lang/String;)V"⟩, 8) := ⟨⟨by decide +kernel, by decide +kernel⟩, List.mem_of_getElem? (i := 244) (by decide +kernel), List.mem_of_getElem? (i := 502) (by decide +kernel), List.mem_of_getElem? (i := 503) (by decide +kernel)⟩
theorem lw_p6 : lw_okq (⟨"DrumPlacer$Reader", "fail", "(I)V"⟩, 8) := ⟨⟨by decide +kernel, by decide +kernel⟩, List.mem_of_getElem? (i := 244) (by decide +kernel), List.mem_of_getElem? (i := 558) (by decide +kernel), List.mem_of_getElem? (i := 559) (by decide +kernel)⟩
theorem lw_p7 : lw_okq (⟨"DrumPlacer$Reader", "failAt", "(II)V"⟩, 8) := ⟨⟨by decide +kernel, by decide +kernel⟩, List.mem_of_getElem? (i := 244) (by decide +kernel), List.mem_of_getElem? (i := 562) (by decide +kernel), List.mem_of_getElem? (i := 563) (by decide +kernel)⟩
theorem lw_p8 : lw_okq (⟨"DrumPlacer$Reader", "takeMeasure", "(Ljava/lang/String;II)I"⟩, 8) := ⟨⟨by decide +kernel, by decide +kernel⟩, List.mem_of_getElem? (i := 244) (by decide +kernel), List.mem_of_getElem? (i := 572) (by decide +kernel), List.mem_of_getElem? (i := 573) (by decide +kernel)⟩
theorem lw_p9 : lw_okq (⟨"DrumPlacer$Reader", "takeNumber", "(II)I"⟩, 8) := ⟨⟨by decide +kernel, by decide +kernel⟩, List.mem_of_getElem? (i := 244) (by decide +kernel), List.mem_of_getElem? (i := 576) (by decide +kernel), List.mem_of_getElem? (i := 577) (by decide +kernel)⟩
theorem lw_p10 : lw_okq (⟨"DrumPlacer$Reader", "takeQuick", "(I)I"⟩, 8) := ⟨⟨by decide +kernel, by decide +kernel⟩, List.mem_of_getElem? (i := 244) (by decide +kernel), List.mem_of_getElem? (i := 582) (by decide +kernel), List.mem_of_getElem? (i := 583) (by decide +kernel)⟩
theorem lw_p11 : lw_okq (⟨"DrumPlacer$Reader", "readWord", "(LDrumPlacer$Plan;)V"⟩, 8) := ⟨⟨by decide +kernel, by decide +kernel⟩, List.mem_of_getElem? (i := 244) (by decide +kernel), List.mem_of_getElem? (i := 592) (by decide +kernel), List.mem_of_getElem? (i := 593) (by decide +kernel)⟩
theorem lw_p12 : lw_okq (⟨"DrumPlacer$Reader", "takeItemWord", "(Ljava/lang/String;Z)V"⟩, 8) := ⟨⟨by decide +kernel, by decide +kernel⟩, List.mem_of_getElem? (i := 244) (by decide +kernel), List.mem_of_getElem? (i := 600) (by decide +kernel), List.mem_of_getElem? (i := 601) (by decide +kernel)⟩
theorem lw_p13 : lw_okq (⟨"DrumPlacer$Reader", "takeItemName", "(I)V"⟩, 8) := ⟨⟨by decide +kernel, by decide +kernel⟩, List.mem_of_getElem? (i := 244) (by decide +kernel), List.mem_of_getElem? (i := 604) (by decide +kernel), List.mem_of_getElem? (i := 605) (by decide +kernel)⟩
theorem lw_p14 : lw_okq (⟨"DrumPlacer$Reader", "mayBeOwnName", "(I)Z"⟩, 8) := ⟨⟨by decide +kernel, by decide +kernel⟩, List.mem_of_getElem? (i := 244) (by decide +kernel), List.mem_of_getElem? (i := 608) (by decide +kernel), List.mem_of_getElem? (i := 609) (by decide +kernel)⟩
theorem lw_p15 : lw_okq (⟨"DrumPlacer$Reader", "itemNamed", "(II)I"⟩, 8) := ⟨⟨by decide +kernel, by decide +kernel⟩, List.mem_of_getElem? (i := 244) (by decide +kernel), List.mem_of_getElem? (i := 633) (by decide +kernel), List.mem_of_getElem? (i := 634) (by decide +kernel)⟩
def lw_privs_1 : List (MethodName × Nat) := [(⟨"DrumPlacer$Tokens", "skipBlanks", "()V"⟩, 7), (⟨"DrumPlacer$Tokens", "takeLetters", "()V"⟩, 7), (⟨"DrumPlacer$Tokens", "takeDigits", "()V"⟩, 7), (⟨"DrumPlacer$Reader", "goesOn", "()Z"⟩, 8), (⟨"DrumPlacer$Reader", "readDrum", "(LDrumPlacer$Plan;)V"⟩, 8), (⟨"DrumPlacer$Reader", "takeWord", "(Ljava/lang/String;)V"⟩, 8), (⟨"DrumPlacer$Reader", "fail", "(I)V"⟩, 8), (⟨"DrumPlacer$Reader", "failAt", "(II)V"⟩, 8), (⟨"DrumPlacer$Reader", "takeMeasure", "(Ljava/lang/String;II)I"⟩, 8), (⟨"DrumPlacer$Reader", "takeNumber", "(II)I"⟩, 8), (⟨"DrumPlacer$Reader", "takeQuick", "(I)I"⟩, 8), (⟨"DrumPlacer$Reader", "readWord", "(LDrumPlacer$Plan;)V"⟩, 8), (⟨"DrumPlacer$Reader", "takeItemWord", "(Ljava/lang/String;Z)V"⟩, 8), (⟨"DrumPlacer$Reader", "takeItemName", "(I)V"⟩, 8), (⟨"DrumPlacer$Reader", "mayBeOwnName", "(I)Z"⟩, 8), (⟨"DrumPlacer$Reader", "itemNamed", "(II)I"⟩, 8)]
theorem lw_r1 : ∀ q ∈ lw_privs_1, lw_okq q := List.forall_mem_cons.mpr ⟨lw_p0, List.forall_mem_cons.mpr ⟨lw_p1, List.forall_mem_cons.mpr ⟨lw_p2, List.forall_mem_cons.mpr ⟨lw_p3, List.forall_mem_cons.mpr ⟨lw_p4, List.forall_mem_cons.mpr ⟨lw_p5, List.forall_mem_cons.mpr ⟨lw_p6, List.forall_mem_cons.mpr ⟨lw_p7, List.forall_mem_cons.mpr ⟨lw_p8, List.forall_mem_cons.mpr ⟨lw_p9, List.forall_mem_cons.mpr ⟨lw_p10, List.forall_mem_cons.mpr ⟨lw_p11, List.forall_mem_cons.mpr ⟨lw_p12, List.forall_mem_cons.mpr ⟨lw_p13, List.forall_mem_cons.mpr ⟨lw_p14, List.forall_mem_cons.mpr ⟨lw_p15, fun _ h => absurd h List.not_mem_nil⟩⟩⟩⟩⟩⟩⟩⟩⟩⟩⟩⟩⟩⟩⟩⟩
theorem lw_p16 : lw_okq (⟨"DrumPlacer$Reader", "takeMinus", "()Z"⟩, 8) := ⟨⟨by decide +kernel, by decide +kernel⟩, List.mem_of_getElem? (i := 244) (by decide +kernel), List.mem_of_getElem? (i := 637) (by decide +kernel), List.mem_of_getElem? (i := 638) (by decide +kernel)⟩
theorem lw_p17 : lw_okq (⟨"DrumPlacer$Reader", "takeAddress", "(LDrumPlacer$Plan;)I"⟩, 8) := ⟨⟨by decide +kernel, by decide +kernel⟩, List.mem_of_getElem? (i := 244) (by decide +kernel), List.mem_of_getElem? (i := 641) (by decide +kernel), List.mem_of_getElem? (i := 642) (by decide +kernel)⟩
theorem lw_p18 : lw_okq (⟨"DrumPlacer$Plan", "addItem", "(II)V"⟩, 18) := ⟨⟨by decide +kernel, by decide +kernel⟩, List.mem_of_getElem? (i := 42) (by decide +kernel), List.mem_of_getElem? (i := 654) (by decide +kernel), List.mem_of_getElem? (i := 655) (by decide +kernel)⟩
theorem lw_p19 : lw_okq (⟨"DrumPlacer$Reader", "readStep", "(LDrumPlacer$Plan;)V"⟩, 8) := ⟨⟨by decide +kernel, by decide +kernel⟩, List.mem_of_getElem? (i := 244) (by decide +kernel), List.mem_of_getElem? (i := 658) (by decide +kernel), List.mem_of_getElem? (i := 659) (by decide +kernel)⟩
theorem lw_p20 : lw_okq (⟨"DrumPlacer$Reader", "takeOperation", "()I"⟩, 8) := ⟨⟨by decide +kernel, by decide +kernel⟩, List.mem_of_getElem? (i := 244) (by decide +kernel), List.mem_of_getElem? (i := 663) (by decide +kernel), List.mem_of_getElem? (i := 664) (by decide +kernel)⟩
theorem lw_p21 : lw_okq (⟨"DrumPlacer$Reader", "takeReference", "(I[I[I)V"⟩, 8) := ⟨⟨by decide +kernel, by decide +kernel⟩, List.mem_of_getElem? (i := 244) (by decide +kernel), List.mem_of_getElem? (i := 667) (by decide +kernel), List.mem_of_getElem? (i := 668) (by decide +kernel)⟩
theorem lw_p22 : lw_okq (⟨"DrumPlacer$Reader", "takeSemicolon", "()V"⟩, 8) := ⟨⟨by decide +kernel, by decide +kernel⟩, List.mem_of_getElem? (i := 244) (by decide +kernel), List.mem_of_getElem? (i := 675) (by decide +kernel), List.mem_of_getElem? (i := 676) (by decide +kernel)⟩
theorem lw_p23 : lw_okq (⟨"DrumPlacer$Reader", "linkStep", "(LDrumPlacer$Plan;I)V"⟩, 8) := ⟨⟨by decide +kernel, by decide +kernel⟩, List.mem_of_getElem? (i := 244) (by decide +kernel), List.mem_of_getElem? (i := 679) (by decide +kernel), List.mem_of_getElem? (i := 680) (by decide +kernel)⟩
theorem lw_p24 : lw_okq (⟨"DrumPlacer$Trace", "doStep", "(II)I"⟩, 17) := ⟨⟨by decide +kernel, by decide +kernel⟩, List.mem_of_getElem? (i := 145) (by decide +kernel), List.mem_of_getElem? (i := 715) (by decide +kernel), List.mem_of_getElem? (i := 716) (by decide +kernel)⟩
theorem lw_p25 : lw_okq (⟨"DrumPlacer$Trace", "addReading", "(II)V"⟩, 17) := ⟨⟨by decide +kernel, by decide +kernel⟩, List.mem_of_getElem? (i := 145) (by decide +kernel), List.mem_of_getElem? (i := 719) (by decide +kernel), List.mem_of_getElem? (i := 720) (by decide +kernel)⟩
theorem lw_p26 : lw_okq (⟨"DrumPlacer$Trace", "carryOut", "(III)V"⟩, 17) := ⟨⟨by decide +kernel, by decide +kernel⟩, List.mem_of_getElem? (i := 145) (by decide +kernel), List.mem_of_getElem? (i := 724) (by decide +kernel), List.mem_of_getElem? (i := 725) (by decide +kernel)⟩
theorem lw_p27 : lw_okq (⟨"DrumPlacer$Trace", "moveOperand", "(II)V"⟩, 17) := ⟨⟨by decide +kernel, by decide +kernel⟩, List.mem_of_getElem? (i := 145) (by decide +kernel), List.mem_of_getElem? (i := 734) (by decide +kernel), List.mem_of_getElem? (i := 735) (by decide +kernel)⟩
theorem lw_p28 : lw_okq (⟨"DrumPlacer$Trace", "markPasses", "()V"⟩, 17) := ⟨⟨by decide +kernel, by decide +kernel⟩, List.mem_of_getElem? (i := 145) (by decide +kernel), List.mem_of_getElem? (i := 743) (by decide +kernel), List.mem_of_getElem? (i := 744) (by decide +kernel)⟩
theorem lw_p29 : lw_okq (⟨"DrumPlacer$Trace", "weighPasses", "(I)V"⟩, 17) := ⟨⟨by decide +kernel, by decide +kernel⟩, List.mem_of_getElem? (i := 145) (by decide +kernel), List.mem_of_getElem? (i := 747) (by decide +kernel), List.mem_of_getElem? (i := 748) (by decide +kernel)⟩
theorem lw_p30 : lw_okq (⟨"DrumPlacer$Trace", "markPassesFrom", "(II)I"⟩, 17) := ⟨⟨by decide +kernel, by decide +kernel⟩, List.mem_of_getElem? (i := 145) (by decide +kernel), List.mem_of_getElem? (i := 751) (by decide +kernel), List.mem_of_getElem? (i := 752) (by decide +kernel)⟩
theorem lw_p31 : lw_okq (⟨"DrumPlacer$Laws", "layFixed", "([I)V"⟩, 4) := ⟨⟨by decide +kernel, by decide +kernel⟩, List.mem_of_getElem? (i := 309) (by decide +kernel), List.mem_of_getElem? (i := 759) (by decide +kernel), List.mem_of_getElem? (i := 760) (by decide +kernel)⟩
def lw_privs_2 : List (MethodName × Nat) := [(⟨"DrumPlacer$Reader", "takeMinus", "()Z"⟩, 8), (⟨"DrumPlacer$Reader", "takeAddress", "(LDrumPlacer$Plan;)I"⟩, 8), (⟨"DrumPlacer$Plan", "addItem", "(II)V"⟩, 18), (⟨"DrumPlacer$Reader", "readStep", "(LDrumPlacer$Plan;)V"⟩, 8), (⟨"DrumPlacer$Reader", "takeOperation", "()I"⟩, 8), (⟨"DrumPlacer$Reader", "takeReference", "(I[I[I)V"⟩, 8), (⟨"DrumPlacer$Reader", "takeSemicolon", "()V"⟩, 8), (⟨"DrumPlacer$Reader", "linkStep", "(LDrumPlacer$Plan;I)V"⟩, 8), (⟨"DrumPlacer$Trace", "doStep", "(II)I"⟩, 17), (⟨"DrumPlacer$Trace", "addReading", "(II)V"⟩, 17), (⟨"DrumPlacer$Trace", "carryOut", "(III)V"⟩, 17), (⟨"DrumPlacer$Trace", "moveOperand", "(II)V"⟩, 17), (⟨"DrumPlacer$Trace", "markPasses", "()V"⟩, 17), (⟨"DrumPlacer$Trace", "weighPasses", "(I)V"⟩, 17), (⟨"DrumPlacer$Trace", "markPassesFrom", "(II)I"⟩, 17), (⟨"DrumPlacer$Laws", "layFixed", "([I)V"⟩, 4)]
theorem lw_r2 : ∀ q ∈ lw_privs_2, lw_okq q := List.forall_mem_cons.mpr ⟨lw_p16, List.forall_mem_cons.mpr ⟨lw_p17, List.forall_mem_cons.mpr ⟨lw_p18, List.forall_mem_cons.mpr ⟨lw_p19, List.forall_mem_cons.mpr ⟨lw_p20, List.forall_mem_cons.mpr ⟨lw_p21, List.forall_mem_cons.mpr ⟨lw_p22, List.forall_mem_cons.mpr ⟨lw_p23, List.forall_mem_cons.mpr ⟨lw_p24, List.forall_mem_cons.mpr ⟨lw_p25, List.forall_mem_cons.mpr ⟨lw_p26, List.forall_mem_cons.mpr ⟨lw_p27, List.forall_mem_cons.mpr ⟨lw_p28, List.forall_mem_cons.mpr ⟨lw_p29, List.forall_mem_cons.mpr ⟨lw_p30, List.forall_mem_cons.mpr ⟨lw_p31, fun _ h => absurd h List.not_mem_nil⟩⟩⟩⟩⟩⟩⟩⟩⟩⟩⟩⟩⟩⟩⟩⟩
theorem lw_p32 : lw_okq (⟨"DrumPlacer$Laws", "lay", "([III)V"⟩, 4) := ⟨⟨by decide +kernel, by decide +kernel⟩, List.mem_of_getElem? (i := 309) (by decide +kernel), List.mem_of_getElem? (i := 763) (by decide +kernel), List.mem_of_getElem? (i := 764) (by decide +kernel)⟩
theorem lw_p33 : lw_okq (⟨"DrumPlacer$Laws", "layRest", "([I)V"⟩, 4) := ⟨⟨by decide +kernel, by decide +kernel⟩, List.mem_of_getElem? (i := 309) (by decide +kernel), List.mem_of_getElem? (i := 772) (by decide +kernel), List.mem_of_getElem? (i := 773) (by decide +kernel)⟩
theorem lw_p34 : lw_okq (⟨"DrumPlacer$Laws", "leastFree", "()I"⟩, 4) := ⟨⟨by decide +kernel, by decide +kernel⟩, List.mem_of_getElem? (i := 309) (by decide +kernel), List.mem_of_getElem? (i := 776) (by decide +kernel), List.mem_of_getElem? (i := 777) (by decide +kernel)⟩
theorem lw_p35 : lw_okq (⟨"DrumPlacer", "itemAt", "(I)I"⟩, 13) := ⟨⟨by decide +kernel, by decide +kernel⟩, List.mem_of_getElem? (i := 19) (by decide +kernel), List.mem_of_getElem? (i := 813) (by decide +kernel), List.mem_of_getElem? (i := 814) (by decide +kernel)⟩
theorem lw_p36 : lw_okq (⟨"DrumPlacer", "whenRead", "(I)I"⟩, 13) := ⟨⟨by decide +kernel, by decide +kernel⟩, List.mem_of_getElem? (i := 19) (by decide +kernel), List.mem_of_getElem? (i := 838) (by decide +kernel), List.mem_of_getElem? (i := 839) (by decide +kernel)⟩
theorem lw_p37 : lw_okq (⟨"DrumPlacer", "timeNow", "()I"⟩, 13) := ⟨⟨by decide +kernel, by decide +kernel⟩, List.mem_of_getElem? (i := 19) (by decide +kernel), List.mem_of_getElem? (i := 842) (by decide +kernel), List.mem_of_getElem? (i := 843) (by decide +kernel)⟩
theorem lw_p38 : lw_okq (⟨"DrumPlacer", "lostInAll", "()I"⟩, 13) := ⟨⟨by decide +kernel, by decide +kernel⟩, List.mem_of_getElem? (i := 19) (by decide +kernel), List.mem_of_getElem? (i := 885) (by decide +kernel), List.mem_of_getElem? (i := 886) (by decide +kernel)⟩
theorem lw_p39 : lw_okq (⟨"DrumPlacer", "refusalOfMove", "(II)I"⟩, 13) := ⟨⟨by decide +kernel, by decide +kernel⟩, List.mem_of_getElem? (i := 19) (by decide +kernel), List.mem_of_getElem? (i := 934) (by decide +kernel), List.mem_of_getElem? (i := 935) (by decide +kernel)⟩
theorem lw_p40 : lw_okq (⟨"DrumPlacer", "timeMoved", "(II)I"⟩, 13) := ⟨⟨by decide +kernel, by decide +kernel⟩, List.mem_of_getElem? (i := 19) (by decide +kernel), List.mem_of_getElem? (i := 938) (by decide +kernel), List.mem_of_getElem? (i := 939) (by decide +kernel)⟩
theorem lw_p41 : lw_okq (⟨"DrumPlacer", "refusalOfExchange", "(II)I"⟩, 13) := ⟨⟨by decide +kernel, by decide +kernel⟩, List.mem_of_getElem? (i := 19) (by decide +kernel), List.mem_of_getElem? (i := 949) (by decide +kernel), List.mem_of_getElem? (i := 950) (by decide +kernel)⟩
theorem lw_p42 : lw_okq (⟨"DrumPlacer", "timeExchanged", "(II)I"⟩, 13) := ⟨⟨by decide +kernel, by decide +kernel⟩, List.mem_of_getElem? (i := 19) (by decide +kernel), List.mem_of_getElem? (i := 953) (by decide +kernel), List.mem_of_getElem? (i := 954) (by decide +kernel)⟩
theorem lw_p43 : lw_okq (⟨"DrumPlacer", "isMove", "(II)Z"⟩, 13) := ⟨⟨by decide +kernel, by decide +kernel⟩, List.mem_of_getElem? (i := 19) (by decide +kernel), List.mem_of_getElem? (i := 962) (by decide +kernel), List.mem_of_getElem? (i := 963) (by decide +kernel)⟩
theorem lw_p44 : lw_okq (⟨"DrumPlacer", "refusalOfLaw", "(I)I"⟩, 13) := ⟨⟨by decide +kernel, by decide +kernel⟩, List.mem_of_getElem? (i := 19) (by decide +kernel), List.mem_of_getElem? (i := 978) (by decide +kernel), List.mem_of_getElem? (i := 979) (by decide +kernel)⟩
theorem lw_p45 : lw_okq (⟨"DrumPlacer", "layBy", "(I[I)V"⟩, 13) := ⟨⟨by decide +kernel, by decide +kernel⟩, List.mem_of_getElem? (i := 19) (by decide +kernel), List.mem_of_getElem? (i := 982) (by decide +kernel), List.mem_of_getElem? (i := 983) (by decide +kernel)⟩
theorem lw_p46 : lw_okq (⟨"DrumPlacer$Laws", "soonest", "(I)I"⟩, 4) := ⟨⟨by decide +kernel, by decide +kernel⟩, List.mem_of_getElem? (i := 309) (by decide +kernel), List.mem_of_getElem? (i := 990) (by decide +kernel), List.mem_of_getElem? (i := 991) (by decide +kernel)⟩
theorem lw_p47 : lw_okq (⟨"DrumPlacer$Search", "takeFixed", "()V"⟩, 13) := ⟨⟨by decide +kernel, by decide +kernel⟩, List.mem_of_getElem? (i := 329) (by decide +kernel), List.mem_of_getElem? (i := 1002) (by decide +kernel), List.mem_of_getElem? (i := 1003) (by decide +kernel)⟩
def lw_privs_3 : List (MethodName × Nat) := [(⟨"DrumPlacer$Laws", "lay", "([III)V"⟩, 4), (⟨"DrumPlacer$Laws", "layRest", "([I)V"⟩, 4), (⟨"DrumPlacer$Laws", "leastFree", "()I"⟩, 4), (⟨"DrumPlacer", "itemAt", "(I)I"⟩, 13), (⟨"DrumPlacer", "whenRead", "(I)I"⟩, 13), (⟨"DrumPlacer", "timeNow", "()I"⟩, 13), (⟨"DrumPlacer", "lostInAll", "()I"⟩, 13), (⟨"DrumPlacer", "refusalOfMove", "(II)I"⟩, 13), (⟨"DrumPlacer", "timeMoved", "(II)I"⟩, 13), (⟨"DrumPlacer", "refusalOfExchange", "(II)I"⟩, 13), (⟨"DrumPlacer", "timeExchanged", "(II)I"⟩, 13), (⟨"DrumPlacer", "isMove", "(II)Z"⟩, 13), (⟨"DrumPlacer", "refusalOfLaw", "(I)I"⟩, 13), (⟨"DrumPlacer", "layBy", "(I[I)V"⟩, 13), (⟨"DrumPlacer$Laws", "soonest", "(I)I"⟩, 4), (⟨"DrumPlacer$Search", "takeFixed", "()V"⟩, 13)]
theorem lw_r3 : ∀ q ∈ lw_privs_3, lw_okq q := List.forall_mem_cons.mpr ⟨lw_p32, List.forall_mem_cons.mpr ⟨lw_p33, List.forall_mem_cons.mpr ⟨lw_p34, List.forall_mem_cons.mpr ⟨lw_p35, List.forall_mem_cons.mpr ⟨lw_p36, List.forall_mem_cons.mpr ⟨lw_p37, List.forall_mem_cons.mpr ⟨lw_p38, List.forall_mem_cons.mpr ⟨lw_p39, List.forall_mem_cons.mpr ⟨lw_p40, List.forall_mem_cons.mpr ⟨lw_p41, List.forall_mem_cons.mpr ⟨lw_p42, List.forall_mem_cons.mpr ⟨lw_p43, List.forall_mem_cons.mpr ⟨lw_p44, List.forall_mem_cons.mpr ⟨lw_p45, List.forall_mem_cons.mpr ⟨lw_p46, List.forall_mem_cons.mpr ⟨lw_p47, fun _ h => absurd h List.not_mem_nil⟩⟩⟩⟩⟩⟩⟩⟩⟩⟩⟩⟩⟩⟩⟩⟩
theorem lw_p48 : lw_okq (⟨"DrumPlacer$Search", "groupAddresses", "()V"⟩, 13) := ⟨⟨by decide +kernel, by decide +kernel⟩, List.mem_of_getElem? (i := 329) (by decide +kernel), List.mem_of_getElem? (i := 1007) (by decide +kernel), List.mem_of_getElem? (i := 1008) (by decide +kernel)⟩
theorem lw_p49 : lw_okq (⟨"DrumPlacer$Search", "layLoose", "(IJ)V"⟩, 13) := ⟨⟨by decide +kernel, by decide +kernel⟩, List.mem_of_getElem? (i := 329) (by decide +kernel), List.mem_of_getElem? (i := 1014) (by decide +kernel), List.mem_of_getElem? (i := 1015) (by decide +kernel)⟩
theorem lw_p50 : lw_okq (⟨"DrumPlacer$Search", "judge", "(J)V"⟩, 13) := ⟨⟨by decide +kernel, by decide +kernel⟩, List.mem_of_getElem? (i := 329) (by decide +kernel), List.mem_of_getElem? (i := 1018) (by decide +kernel), List.mem_of_getElem? (i := 1019) (by decide +kernel)⟩
theorem lw_p51 : lw_okq (⟨"DrumPlacer", "exchange", "(II)V"⟩, 13) := ⟨⟨by decide +kernel, by decide +kernel⟩, List.mem_of_getElem? (i := 19) (by decide +kernel), List.mem_of_getElem? (i := 1054) (by decide +kernel), List.mem_of_getElem? (i := 1055) (by decide +kernel)⟩
theorem lw_p52 : lw_okq (⟨"DrumPlacerModel", "next", "()V"⟩, 53) := ⟨⟨by decide +kernel, by decide +kernel⟩, List.mem_of_getElem? (i := 1074) (by decide +kernel), List.mem_of_getElem? (i := 1255) (by decide +kernel), List.mem_of_getElem? (i := 1256) (by decide +kernel)⟩
theorem lw_p53 : lw_okq (⟨"DrumPlacerModel", "isAt", "(II)Z"⟩, 53) := ⟨⟨by decide +kernel, by decide +kernel⟩, List.mem_of_getElem? (i := 1074) (by decide +kernel), List.mem_of_getElem? (i := 1259) (by decide +kernel), List.mem_of_getElem? (i := 1260) (by decide +kernel)⟩
theorem lw_p54 : lw_okq (⟨"DrumPlacerModel", "keptHere", "()I"⟩, 53) := ⟨⟨by decide +kernel, by decide +kernel⟩, List.mem_of_getElem? (i := 1074) (by decide +kernel), List.mem_of_getElem? (i := 1263) (by decide +kernel), List.mem_of_getElem? (i := 1264) (by decide +kernel)⟩
theorem lw_p55 : lw_okq (⟨"DrumPlacerModel", "readsDrum", "()V"⟩, 53) := ⟨⟨by decide +kernel, by decide +kernel⟩, List.mem_of_getElem? (i := 1074) (by decide +kernel), List.mem_of_getElem? (i := 1272) (by decide +kernel), List.mem_of_getElem? (i := 1273) (by decide +kernel)⟩
theorem lw_p56 : lw_okq (⟨"DrumPlacerModel", "passes", "(Z)V"⟩, 53) := ⟨⟨by decide +kernel, by decide +kernel⟩, List.mem_of_getElem? (i := 1074) (by decide +kernel), List.mem_of_getElem? (i := 1276) (by decide +kernel), List.mem_of_getElem? (i := 1277) (by decide +kernel)⟩
theorem lw_p57 : lw_okq (⟨"DrumPlacerModel", "faults", "(I)V"⟩, 53) := ⟨⟨by decide +kernel, by decide +kernel⟩, List.mem_of_getElem? (i := 1074) (by decide +kernel), List.mem_of_getElem? (i := 1280) (by decide +kernel), List.mem_of_getElem? (i := 1281) (by decide +kernel)⟩
theorem lw_p58 : lw_okq (⟨"DrumPlacerModel", "named", "(Ljava/lang/String;II)I"⟩, 53) := ⟨⟨by decide +kernel, by decide +kernel⟩, List.mem_of_getElem? (i := 1074) (by decide +kernel), List.mem_of_getElem? (i := 1285) (by decide +kernel), List.mem_of_getElem? (i := 1286) (by decide +kernel)⟩
theorem lw_p59 : lw_okq (⟨"DrumPlacerModel", "isWord", "(Ljava/lang/String;)Z"⟩, 53) := ⟨⟨by decide +kernel, by decide +kernel⟩, List.mem_of_getElem? (i := 1074) (by decide +kernel), List.mem_of_getElem? (i := 1289) (by decide +kernel), List.mem_of_getElem? (i := 1290) (by decide +kernel)⟩
theorem lw_p60 : lw_okq (⟨"DrumPlacerModel", "reads", "(II)I"⟩, 53) := ⟨⟨by decide +kernel, by decide +kernel⟩, List.mem_of_getElem? (i := 1074) (by decide +kernel), List.mem_of_getElem? (i := 1293) (by decide +kernel), List.mem_of_getElem? (i := 1294) (by decide +kernel)⟩
theorem lw_p61 : lw_okq (⟨"DrumPlacerModel", "isQuick", "(I)Z"⟩, 53) := ⟨⟨by decide +kernel, by decide +kernel⟩, List.mem_of_getElem? (i := 1074) (by decide +kernel), List.mem_of_getElem? (i := 1300) (by decide +kernel), List.mem_of_getElem? (i := 1301) (by decide +kernel)⟩
theorem lw_p62 : lw_okq (⟨"DrumPlacerModel", "readsItem", "()V"⟩, 53) := ⟨⟨by decide +kernel, by decide +kernel⟩, List.mem_of_getElem? (i := 1074) (by decide +kernel), List.mem_of_getElem? (i := 1305) (by decide +kernel), List.mem_of_getElem? (i := 1306) (by decide +kernel)⟩
theorem lw_p63 : lw_okq (⟨"DrumPlacerModel", "readsName", "()V"⟩, 53) := ⟨⟨by decide +kernel, by decide +kernel⟩, List.mem_of_getElem? (i := 1074) (by decide +kernel), List.mem_of_getElem? (i := 1309) (by decide +kernel), List.mem_of_getElem? (i := 1310) (by decide +kernel)⟩
def lw_privs_4 : List (MethodName × Nat) := [(⟨"DrumPlacer$Search", "groupAddresses", "()V"⟩, 13), (⟨"DrumPlacer$Search", "layLoose", "(IJ)V"⟩, 13), (⟨"DrumPlacer$Search", "judge", "(J)V"⟩, 13), (⟨"DrumPlacer", "exchange", "(II)V"⟩, 13), (⟨"DrumPlacerModel", "next", "()V"⟩, 53), (⟨"DrumPlacerModel", "isAt", "(II)Z"⟩, 53), (⟨"DrumPlacerModel", "keptHere", "()I"⟩, 53), (⟨"DrumPlacerModel", "readsDrum", "()V"⟩, 53), (⟨"DrumPlacerModel", "passes", "(Z)V"⟩, 53), (⟨"DrumPlacerModel", "faults", "(I)V"⟩, 53), (⟨"DrumPlacerModel", "named", "(Ljava/lang/String;II)I"⟩, 53), (⟨"DrumPlacerModel", "isWord", "(Ljava/lang/String;)Z"⟩, 53), (⟨"DrumPlacerModel", "reads", "(II)I"⟩, 53), (⟨"DrumPlacerModel", "isQuick", "(I)Z"⟩, 53), (⟨"DrumPlacerModel", "readsItem", "()V"⟩, 53), (⟨"DrumPlacerModel", "readsName", "()V"⟩, 53)]
theorem lw_r4 : ∀ q ∈ lw_privs_4, lw_okq q := List.forall_mem_cons.mpr ⟨lw_p48, List.forall_mem_cons.mpr ⟨lw_p49, List.forall_mem_cons.mpr ⟨lw_p50, List.forall_mem_cons.mpr ⟨lw_p51, List.forall_mem_cons.mpr ⟨lw_p52, List.forall_mem_cons.mpr ⟨lw_p53, List.forall_mem_cons.mpr ⟨lw_p54, List.forall_mem_cons.mpr ⟨lw_p55, List.forall_mem_cons.mpr ⟨lw_p56, List.forall_mem_cons.mpr ⟨lw_p57, List.forall_mem_cons.mpr ⟨lw_p58, List.forall_mem_cons.mpr ⟨lw_p59, List.forall_mem_cons.mpr ⟨lw_p60, List.forall_mem_cons.mpr ⟨lw_p61, List.forall_mem_cons.mpr ⟨lw_p62, List.forall_mem_cons.mpr ⟨lw_p63, fun _ h => absurd h List.not_mem_nil⟩⟩⟩⟩⟩⟩⟩⟩⟩⟩⟩⟩⟩⟩⟩⟩
theorem lw_p64 : lw_okq (⟨"DrumPlacerModel", "itemNamed", "(II)I"⟩, 53) := ⟨⟨by decide +kernel, by decide +kernel⟩, List.mem_of_getElem? (i := 1074) (by decide +kernel), List.mem_of_getElem? (i := 1313) (by decide +kernel), List.mem_of_getElem? (i := 1314) (by decide +kernel)⟩
theorem lw_p65 : lw_okq (⟨"DrumPlacerModel", "isAlike", "(IIII)Z"⟩, 53) := ⟨⟨by decide +kernel, by decide +kernel⟩, List.mem_of_getElem? (i := 1074) (by decide +kernel), List.mem_of_getElem? (i := 1317) (by decide +kernel), List.mem_of_getElem? (i := 1318) (by decide +kernel)⟩
theorem lw_p66 : lw_okq (⟨"DrumPlacerModel", "readsOp", "()V"⟩, 53) := ⟨⟨by decide +kernel, by decide +kernel⟩, List.mem_of_getElem? (i := 1074) (by decide +kernel), List.mem_of_getElem? (i := 1321) (by decide +kernel), List.mem_of_getElem? (i := 1322) (by decide +kernel)⟩
theorem lw_p67 : lw_okq (⟨"DrumPlacerModel", "readsRef", "(Z)V"⟩, 53) := ⟨⟨by decide +kernel, by decide +kernel⟩, List.mem_of_getElem? (i := 1074) (by decide +kernel), List.mem_of_getElem? (i := 1326) (by decide +kernel), List.mem_of_getElem? (i := 1327) (by decide +kernel)⟩
theorem lw_p68 : lw_okq (⟨"DrumPlacerModel", "isSign", "(C)Z"⟩, 53) := ⟨⟨by decide +kernel, by decide +kernel⟩, List.mem_of_getElem? (i := 1074) (by decide +kernel), List.mem_of_getElem? (i := 1330) (by decide +kernel), List.mem_of_getElem? (i := 1331) (by decide +kernel)⟩
theorem lw_p69 : lw_okq (⟨"DrumPlacerModel", "many", "()I"⟩, 53) := ⟨⟨by decide +kernel, by decide +kernel⟩, List.mem_of_getElem? (i := 1074) (by decide +kernel), List.mem_of_getElem? (i := 1334) (by decide +kernel), List.mem_of_getElem? (i := 1335) (by decide +kernel)⟩
theorem lw_p70 : lw_okq (⟨"DrumPlacerModel", "fixedAt", "(I)I"⟩, 53) := ⟨⟨by decide +kernel, by decide +kernel⟩, List.mem_of_getElem? (i := 1074) (by decide +kernel), List.mem_of_getElem? (i := 1338) (by decide +kernel), List.mem_of_getElem? (i := 1339) (by decide +kernel)⟩
theorem lw_p71 : lw_okq (⟨"DrumPlacerModel", "resolves", "()V"⟩, 53) := ⟨⟨by decide +kernel, by decide +kernel⟩, List.mem_of_getElem? (i := 1074) (by decide +kernel), List.mem_of_getElem? (i := 1342) (by decide +kernel), List.mem_of_getElem? (i := 1343) (by decide +kernel)⟩
theorem lw_p72 : lw_okq (⟨"DrumPlacerModel", "wordsOf", "()I"⟩, 53) := ⟨⟨by decide +kernel, by decide +kernel⟩, List.mem_of_getElem? (i := 1074) (by decide +kernel), List.mem_of_getElem? (i := 1346) (by decide +kernel), List.mem_of_getElem? (i := 1347) (by decide +kernel)⟩
theorem lw_p73 : lw_okq (⟨"DrumPlacerModel", "laysBy", "(I)V"⟩, 53) := ⟨⟨by decide +kernel, by decide +kernel⟩, List.mem_of_getElem? (i := 1074) (by decide +kernel), List.mem_of_getElem? (i := 1350) (by decide +kernel), List.mem_of_getElem? (i := 1351) (by decide +kernel)⟩
theorem lw_p74 : lw_okq (⟨"DrumPlacerModel", "laysFixed", "()V"⟩, 53) := ⟨⟨by decide +kernel, by decide +kernel⟩, List.mem_of_getElem? (i := 1074) (by decide +kernel), List.mem_of_getElem? (i := 1354) (by decide +kernel), List.mem_of_getElem? (i := 1355) (by decide +kernel)⟩
theorem lw_p75 : lw_okq (⟨"DrumPlacerModel", "hasRun", "()Z"⟩, 53) := ⟨⟨by decide +kernel, by decide +kernel⟩, List.mem_of_getElem? (i := 1074) (by decide +kernel), List.mem_of_getElem? (i := 1358) (by decide +kernel), List.mem_of_getElem? (i := 1359) (by decide +kernel)⟩
theorem lw_p76 : lw_okq (⟨"DrumPlacerModel", "laysSoon", "()V"⟩, 53) := ⟨⟨by decide +kernel, by decide +kernel⟩, List.mem_of_getElem? (i := 1074) (by decide +kernel), List.mem_of_getElem? (i := 1362) (by decide +kernel), List.mem_of_getElem? (i := 1363) (by decide +kernel)⟩
theorem lw_p77 : lw_okq (⟨"DrumPlacerModel", "takes", "()V"⟩, 53) := ⟨⟨by decide +kernel, by decide +kernel⟩, List.mem_of_getElem? (i := 1074) (by decide +kernel), List.mem_of_getElem? (i := 1366) (by decide +kernel), List.mem_of_getElem? (i := 1367) (by decide +kernel)⟩
theorem lw_p78 : lw_okq (⟨"DrumPlacerModel", "runs", "()V"⟩, 53) := ⟨⟨by decide +kernel, by decide +kernel⟩, List.mem_of_getElem? (i := 1074) (by decide +kernel), List.mem_of_getElem? (i := 1370) (by decide +kernel), List.mem_of_getElem? (i := 1371) (by decide +kernel)⟩
theorem lw_p79 : lw_okq (⟨"DrumPlacerModel", "reading", "(II)V"⟩, 53) := ⟨⟨by decide +kernel, by decide +kernel⟩, List.mem_of_getElem? (i := 1074) (by decide +kernel), List.mem_of_getElem? (i := 1374) (by decide +kernel), List.mem_of_getElem? (i := 1375) (by decide +kernel)⟩
def lw_privs_5 : List (MethodName × Nat) := [(⟨"DrumPlacerModel", "itemNamed", "(II)I"⟩, 53), (⟨"DrumPlacerModel", "isAlike", "(IIII)Z"⟩, 53), (⟨"DrumPlacerModel", "readsOp", "()V"⟩, 53), (⟨"DrumPlacerModel", "readsRef", "(Z)V"⟩, 53), (⟨"DrumPlacerModel", "isSign", "(C)Z"⟩, 53), (⟨"DrumPlacerModel", "many", "()I"⟩, 53), (⟨"DrumPlacerModel", "fixedAt", "(I)I"⟩, 53), (⟨"DrumPlacerModel", "resolves", "()V"⟩, 53), (⟨"DrumPlacerModel", "wordsOf", "()I"⟩, 53), (⟨"DrumPlacerModel", "laysBy", "(I)V"⟩, 53), (⟨"DrumPlacerModel", "laysFixed", "()V"⟩, 53), (⟨"DrumPlacerModel", "hasRun", "()Z"⟩, 53), (⟨"DrumPlacerModel", "laysSoon", "()V"⟩, 53), (⟨"DrumPlacerModel", "takes", "()V"⟩, 53), (⟨"DrumPlacerModel", "runs", "()V"⟩, 53), (⟨"DrumPlacerModel", "reading", "(II)V"⟩, 53)]
theorem lw_r5 : ∀ q ∈ lw_privs_5, lw_okq q := List.forall_mem_cons.mpr ⟨lw_p64, List.forall_mem_cons.mpr ⟨lw_p65, List.forall_mem_cons.mpr ⟨lw_p66, List.forall_mem_cons.mpr ⟨lw_p67, List.forall_mem_cons.mpr ⟨lw_p68, List.forall_mem_cons.mpr ⟨lw_p69, List.forall_mem_cons.mpr ⟨lw_p70, List.forall_mem_cons.mpr ⟨lw_p71, List.forall_mem_cons.mpr ⟨lw_p72, List.forall_mem_cons.mpr ⟨lw_p73, List.forall_mem_cons.mpr ⟨lw_p74, List.forall_mem_cons.mpr ⟨lw_p75, List.forall_mem_cons.mpr ⟨lw_p76, List.forall_mem_cons.mpr ⟨lw_p77, List.forall_mem_cons.mpr ⟨lw_p78, List.forall_mem_cons.mpr ⟨lw_p79, fun _ h => absurd h List.not_mem_nil⟩⟩⟩⟩⟩⟩⟩⟩⟩⟩⟩⟩⟩⟩⟩⟩
theorem lw_p80 : lw_okq (⟨"DrumPlacerModel", "goes", "(II)V"⟩, 53) := ⟨⟨by decide +kernel, by decide +kernel⟩, List.mem_of_getElem? (i := 1074) (by decide +kernel), List.mem_of_getElem? (i := 1378) (by decide +kernel), List.mem_of_getElem? (i := 1379) (by decide +kernel)⟩
theorem lw_p81 : lw_okq (⟨"DrumPlacerModel", "wordBehind", "(II)I"⟩, 53) := ⟨⟨by decide +kernel, by decide +kernel⟩, List.mem_of_getElem? (i := 1074) (by decide +kernel), List.mem_of_getElem? (i := 1386) (by decide +kernel), List.mem_of_getElem? (i := 1387) (by decide +kernel)⟩
theorem lw_p82 : lw_okq (⟨"DrumPlacerModel", "waited", "(I)I"⟩, 53) := ⟨⟨by decide +kernel, by decide +kernel⟩, List.mem_of_getElem? (i := 1074) (by decide +kernel), List.mem_of_getElem? (i := 1390) (by decide +kernel), List.mem_of_getElem? (i := 1391) (by decide +kernel)⟩
theorem lw_p83 : lw_okq (⟨"DrumPlacerModel", "isTaken", "(I)Z"⟩, 53) := ⟨⟨by decide +kernel, by decide +kernel⟩, List.mem_of_getElem? (i := 1074) (by decide +kernel), List.mem_of_getElem? (i := 1394) (by decide +kernel), List.mem_of_getElem? (i := 1395) (by decide +kernel)⟩
theorem lw_p84 : lw_okq (⟨"DrumPlacerModel", "whenAt", "(II)I"⟩, 53) := ⟨⟨by decide +kernel, by decide +kernel⟩, List.mem_of_getElem? (i := 1074) (by decide +kernel), List.mem_of_getElem? (i := 1398) (by decide +kernel), List.mem_of_getElem? (i := 1399) (by decide +kernel)⟩
theorem lw_p85 : lw_okq (⟨"DrumPlacerModel", "triesAll", "()V"⟩, 53) := ⟨⟨by decide +kernel, by decide +kernel⟩, List.mem_of_getElem? (i := 1074) (by decide +kernel), List.mem_of_getElem? (i := 1402) (by decide +kernel), List.mem_of_getElem? (i := 1403) (by decide +kernel)⟩
theorem lw_p86 : lw_okq (⟨"DrumPlacerModel", "laysClasses", "()V"⟩, 53) := ⟨⟨by decide +kernel, by decide +kernel⟩, List.mem_of_getElem? (i := 1074) (by decide +kernel), List.mem_of_getElem? (i := 1406) (by decide +kernel), List.mem_of_getElem? (i := 1407) (by decide +kernel)⟩
theorem lw_p87 : lw_okq (⟨"DrumPlacerModel", "isFree", "(I)Z"⟩, 53) := ⟨⟨by decide +kernel, by decide +kernel⟩, List.mem_of_getElem? (i := 1074) (by decide +kernel), List.mem_of_getElem? (i := 1410) (by decide +kernel), List.mem_of_getElem? (i := 1411) (by decide +kernel)⟩
theorem lw_p88 : lw_okq (⟨"DrumPlacerModel", "tries", "(IJ)V"⟩, 53) := ⟨⟨by decide +kernel, by decide +kernel⟩, List.mem_of_getElem? (i := 1074) (by decide +kernel), List.mem_of_getElem? (i := 1415) (by decide +kernel), List.mem_of_getElem? (i := 1416) (by decide +kernel)⟩
theorem lw_p89 : lw_okq (⟨"DrumPlacerModel", "weighs", "(J)V"⟩, 53) := ⟨⟨by decide +kernel, by decide +kernel⟩, List.mem_of_getElem? (i := 1074) (by decide +kernel), List.mem_of_getElem? (i := 1419) (by decide +kernel), List.mem_of_getElem? (i := 1420) (by decide +kernel)⟩
theorem lw_p90 : lw_okq (⟨"DrumPlacerModel", "timed", "()I"⟩, 53) := ⟨⟨by decide +kernel, by decide +kernel⟩, List.mem_of_getElem? (i := 1074) (by decide +kernel), List.mem_of_getElem? (i := 1423) (by decide +kernel), List.mem_of_getElem? (i := 1424) (by decide +kernel)⟩
theorem lw_p91 : lw_okq (⟨"DrumPlacerModel", "isAhead", "()Z"⟩, 53) := ⟨⟨by decide +kernel, by decide +kernel⟩, List.mem_of_getElem? (i := 1074) (by decide +kernel), List.mem_of_getElem? (i := 1428) (by decide +kernel), List.mem_of_getElem? (i := 1429) (by decide +kernel)⟩
theorem lw_p92 : lw_okq (⟨"DrumPlacerModel", "placeOf", "(II)I"⟩, 53) := ⟨⟨by decide +kernel, by decide +kernel⟩, List.mem_of_getElem? (i := 1074) (by decide +kernel), List.mem_of_getElem? (i := 1432) (by decide +kernel), List.mem_of_getElem? (i := 1433) (by decide +kernel)⟩
theorem lw_p93 : lw_okq (⟨"DrumPlacerModel", "laysRest", "()V"⟩, 53) := ⟨⟨by decide +kernel, by decide +kernel⟩, List.mem_of_getElem? (i := 1074) (by decide +kernel), List.mem_of_getElem? (i := 1436) (by decide +kernel), List.mem_of_getElem? (i := 1437) (by decide +kernel)⟩
theorem lw_p94 : lw_okq (⟨"DrumPlacerModel", "takesLaid", "()V"⟩, 53) := ⟨⟨by decide +kernel, by decide +kernel⟩, List.mem_of_getElem? (i := 1074) (by decide +kernel), List.mem_of_getElem? (i := 1440) (by decide +kernel), List.mem_of_getElem? (i := 1441) (by decide +kernel)⟩
theorem lw_p95 : lw_okq (⟨"DrumPlacerModel", "freeItems", "()I"⟩, 53) := ⟨⟨by decide +kernel, by decide +kernel⟩, List.mem_of_getElem? (i := 1074) (by decide +kernel), List.mem_of_getElem? (i := 1452) (by decide +kernel), List.mem_of_getElem? (i := 1453) (by decide +kernel)⟩
def lw_privs_6 : List (MethodName × Nat) := [(⟨"DrumPlacerModel", "goes", "(II)V"⟩, 53), (⟨"DrumPlacerModel", "wordBehind", "(II)I"⟩, 53), (⟨"DrumPlacerModel", "waited", "(I)I"⟩, 53), (⟨"DrumPlacerModel", "isTaken", "(I)Z"⟩, 53), (⟨"DrumPlacerModel", "whenAt", "(II)I"⟩, 53), (⟨"DrumPlacerModel", "triesAll", "()V"⟩, 53), (⟨"DrumPlacerModel", "laysClasses", "()V"⟩, 53), (⟨"DrumPlacerModel", "isFree", "(I)Z"⟩, 53), (⟨"DrumPlacerModel", "tries", "(IJ)V"⟩, 53), (⟨"DrumPlacerModel", "weighs", "(J)V"⟩, 53), (⟨"DrumPlacerModel", "timed", "()I"⟩, 53), (⟨"DrumPlacerModel", "isAhead", "()Z"⟩, 53), (⟨"DrumPlacerModel", "placeOf", "(II)I"⟩, 53), (⟨"DrumPlacerModel", "laysRest", "()V"⟩, 53), (⟨"DrumPlacerModel", "takesLaid", "()V"⟩, 53), (⟨"DrumPlacerModel", "freeItems", "()I"⟩, 53)]
theorem lw_r6 : ∀ q ∈ lw_privs_6, lw_okq q := List.forall_mem_cons.mpr ⟨lw_p80, List.forall_mem_cons.mpr ⟨lw_p81, List.forall_mem_cons.mpr ⟨lw_p82, List.forall_mem_cons.mpr ⟨lw_p83, List.forall_mem_cons.mpr ⟨lw_p84, List.forall_mem_cons.mpr ⟨lw_p85, List.forall_mem_cons.mpr ⟨lw_p86, List.forall_mem_cons.mpr ⟨lw_p87, List.forall_mem_cons.mpr ⟨lw_p88, List.forall_mem_cons.mpr ⟨lw_p89, List.forall_mem_cons.mpr ⟨lw_p90, List.forall_mem_cons.mpr ⟨lw_p91, List.forall_mem_cons.mpr ⟨lw_p92, List.forall_mem_cons.mpr ⟨lw_p93, List.forall_mem_cons.mpr ⟨lw_p94, List.forall_mem_cons.mpr ⟨lw_p95, fun _ h => absurd h List.not_mem_nil⟩⟩⟩⟩⟩⟩⟩⟩⟩⟩⟩⟩⟩⟩⟩⟩
theorem lw_p96 : lw_okq (⟨"DrumPlacerModel", "isItem", "(I)Z"⟩, 53) := ⟨⟨by decide +kernel, by decide +kernel⟩, List.mem_of_getElem? (i := 1074) (by decide +kernel), List.mem_of_getElem? (i := 1460) (by decide +kernel), List.mem_of_getElem? (i := 1461) (by decide +kernel)⟩
theorem lw_p97 : lw_okq (⟨"DrumPlacerModel", "itemAt", "(I)I"⟩, 53) := ⟨⟨by decide +kernel, by decide +kernel⟩, List.mem_of_getElem? (i := 1074) (by decide +kernel), List.mem_of_getElem? (i := 1468) (by decide +kernel), List.mem_of_getElem? (i := 1469) (by decide +kernel)⟩
theorem lw_p98 : lw_okq (⟨"DrumPlacerModel", "timeNow", "()I"⟩, 53) := ⟨⟨by decide +kernel, by decide +kernel⟩, List.mem_of_getElem? (i := 1074) (by decide +kernel), List.mem_of_getElem? (i := 1493) (by decide +kernel), List.mem_of_getElem? (i := 1494) (by decide +kernel)⟩
theorem lw_p99 : lw_okq (⟨"DrumPlacerModel", "lostOf", "(I)I"⟩, 53) := ⟨⟨by decide +kernel, by decide +kernel⟩, List.mem_of_getElem? (i := 1074) (by decide +kernel), List.mem_of_getElem? (i := 1509) (by decide +kernel), List.mem_of_getElem? (i := 1510) (by decide +kernel)⟩
theorem lw_p100 : lw_okq (⟨"DrumPlacerModel", "lostAt", "(I)I"⟩, 53) := ⟨⟨by decide +kernel, by decide +kernel⟩, List.mem_of_getElem? (i := 1074) (by decide +kernel), List.mem_of_getElem? (i := 1513) (by decide +kernel), List.mem_of_getElem? (i := 1514) (by decide +kernel)⟩
theorem lw_p101 : lw_okq (⟨"DrumPlacerModel", "whyNot", "(II)I"⟩, 53) := ⟨⟨by decide +kernel, by decide +kernel⟩, List.mem_of_getElem? (i := 1074) (by decide +kernel), List.mem_of_getElem? (i := 1546) (by decide +kernel), List.mem_of_getElem? (i := 1547) (by decide +kernel)⟩
theorem lw_p102 : lw_okq (⟨"DrumPlacerModel", "timeMoved", "(II)I"⟩, 53) := ⟨⟨by decide +kernel, by decide +kernel⟩, List.mem_of_getElem? (i := 1074) (by decide +kernel), List.mem_of_getElem? (i := 1550) (by decide +kernel), List.mem_of_getElem? (i := 1551) (by decide +kernel)⟩
theorem lw_p103 : lw_okq (⟨"DrumPlacerModel", "whyNotBoth", "(II)I"⟩, 53) := ⟨⟨by decide +kernel, by decide +kernel⟩, List.mem_of_getElem? (i := 1074) (by decide +kernel), List.mem_of_getElem? (i := 1558) (by decide +kernel), List.mem_of_getElem? (i := 1559) (by decide +kernel)⟩
theorem lw_p104 : lw_okq (⟨"DrumPlacerModel", "timeSwapped", "(II)I"⟩, 53) := ⟨⟨by decide +kernel, by decide +kernel⟩, List.mem_of_getElem? (i := 1074) (by decide +kernel), List.mem_of_getElem? (i := 1562) (by decide +kernel), List.mem_of_getElem? (i := 1563) (by decide +kernel)⟩
theorem lw_p105 : lw_okq (⟨"DrumPlacerModel", "whyNotLaw", "(I)I"⟩, 53) := ⟨⟨by decide +kernel, by decide +kernel⟩, List.mem_of_getElem? (i := 1074) (by decide +kernel), List.mem_of_getElem? (i := 1582) (by decide +kernel), List.mem_of_getElem? (i := 1583) (by decide +kernel)⟩
theorem lw_p106 : lw_okq (⟨"DrumPlacerModel", "keeps", "()V"⟩, 53) := ⟨⟨by decide +kernel, by decide +kernel⟩, List.mem_of_getElem? (i := 1074) (by decide +kernel), List.mem_of_getElem? (i := 1603) (by decide +kernel), List.mem_of_getElem? (i := 1604) (by decide +kernel)⟩
theorem lw_p107 : lw_okq (⟨"DrumPlacerModel", "goesBack", "(I)V"⟩, 53) := ⟨⟨by decide +kernel, by decide +kernel⟩, List.mem_of_getElem? (i := 1074) (by decide +kernel), List.mem_of_getElem? (i := 1619) (by decide +kernel), List.mem_of_getElem? (i := 1620) (by decide +kernel)⟩
def lw_privs_7 : List (MethodName × Nat) := [(⟨"DrumPlacerModel", "isItem", "(I)Z"⟩, 53), (⟨"DrumPlacerModel", "itemAt", "(I)I"⟩, 53), (⟨"DrumPlacerModel", "timeNow", "()I"⟩, 53), (⟨"DrumPlacerModel", "lostOf", "(I)I"⟩, 53), (⟨"DrumPlacerModel", "lostAt", "(I)I"⟩, 53), (⟨"DrumPlacerModel", "whyNot", "(II)I"⟩, 53), (⟨"DrumPlacerModel", "timeMoved", "(II)I"⟩, 53), (⟨"DrumPlacerModel", "whyNotBoth", "(II)I"⟩, 53), (⟨"DrumPlacerModel", "timeSwapped", "(II)I"⟩, 53), (⟨"DrumPlacerModel", "whyNotLaw", "(I)I"⟩, 53), (⟨"DrumPlacerModel", "keeps", "()V"⟩, 53), (⟨"DrumPlacerModel", "goesBack", "(I)V"⟩, 53)]
theorem lw_r7 : ∀ q ∈ lw_privs_7, lw_okq q := List.forall_mem_cons.mpr ⟨lw_p96, List.forall_mem_cons.mpr ⟨lw_p97, List.forall_mem_cons.mpr ⟨lw_p98, List.forall_mem_cons.mpr ⟨lw_p99, List.forall_mem_cons.mpr ⟨lw_p100, List.forall_mem_cons.mpr ⟨lw_p101, List.forall_mem_cons.mpr ⟨lw_p102, List.forall_mem_cons.mpr ⟨lw_p103, List.forall_mem_cons.mpr ⟨lw_p104, List.forall_mem_cons.mpr ⟨lw_p105, List.forall_mem_cons.mpr ⟨lw_p106, List.forall_mem_cons.mpr ⟨lw_p107, fun _ h => absurd h List.not_mem_nil⟩⟩⟩⟩⟩⟩⟩⟩⟩⟩⟩⟩
def lw_privs : List (MethodName × Nat) := lw_privs_1 ++ (lw_privs_2 ++ (lw_privs_3 ++ (lw_privs_4 ++ (lw_privs_5 ++ (lw_privs_6 ++ (lw_privs_7))))))
def lw_tbl : List Cond := k2_sels lw_privs ++ tables_1
theorem lw_privs_ok : ∀ q ∈ lw_privs, lw_okq q := by
  show ∀ q ∈ lw_privs_1 ++ (lw_privs_2 ++ (lw_privs_3 ++ (lw_privs_4 ++ (lw_privs_5 ++ (lw_privs_6 ++ (lw_privs_7)))))), lw_okq q
  exact List.forall_mem_append.mpr ⟨lw_r1, List.forall_mem_append.mpr ⟨lw_r2, List.forall_mem_append.mpr ⟨lw_r3, List.forall_mem_append.mpr ⟨lw_r4, List.forall_mem_append.mpr ⟨lw_r5, List.forall_mem_append.mpr ⟨lw_r6, lw_r7⟩⟩⟩⟩⟩⟩
end
section
def RX0 : String := "DrumPlacer$Acts"
def TX0 : u_T := fun k => match k with
  | 0 => ("DrumPlacer$Acts", "before", "[I", true)
  | _ => ("DrumPlacer$Acts", "count", "I", false)
def tyX0 : Nat → FieldType := fun k => match k with
  | 0 => .array .int
  | _ => .int
theorem nmX0 : ∀ a, a < 2 → ∀ b, b < 2 → a ≠ b → (TX0 a).2.1 ≠ (TX0 b).2.1 := by decide +kernel
theorem tyX0_ok : ∀ k, k < 2 → parseFieldDescriptor (TX0 k).2.2.1 = some (tyX0 k) := by decide +kernel
abbrev cX0_init : ByteArray := prog_2_method_1_code
def yX0_init : MethodName := ⟨RX0, "<init>", "()V"⟩
abbrev cX0_keep : ByteArray := prog_2_method_2_code
def yX0_keep : MethodName := ⟨RX0, "keep", "([I)Z"⟩
abbrev cX0_backTo : ByteArray := prog_2_method_3_code
def yX0_backTo : MethodName := ⟨RX0, "backTo", "(I[I)V"⟩
def RX1 : String := "DrumPlacer$Clock"
def TX1 : u_T := fun k => match k with
  | 0 => ("DrumPlacer$Clock", "plan", "LDrumPlacer$Plan;", true)
  | 1 => ("DrumPlacer$Clock", "trace", "LDrumPlacer$Trace;", true)
  | 2 => ("DrumPlacer$Clock", "turn", "[I", true)
  | 3 => ("DrumPlacer$Clock", "phase", "[I", true)
  | 4 => ("DrumPlacer$Clock", "when", "[I", true)
  | _ => ("DrumPlacer$Clock", "waited", "[I", true)
def tyX1 : Nat → FieldType := fun k => match k with
  | 0 => .object "DrumPlacer$Plan"
  | 1 => .object "DrumPlacer$Trace"
  | 2 => .array .int
  | 3 => .array .int
  | 4 => .array .int
  | _ => .array .int
theorem nmX1 : ∀ a, a < 6 → ∀ b, b < 6 → a ≠ b → (TX1 a).2.1 ≠ (TX1 b).2.1 := by decide +kernel
theorem tyX1_ok : ∀ k, k < 6 → parseFieldDescriptor (TX1 k).2.2.1 = some (tyX1 k) := by decide +kernel
abbrev cX1_init : ByteArray := prog_3_method_1_code
def yX1_init : MethodName := ⟨RX1, "<init>", "(LDrumPlacer$Plan;LDrumPlacer$Trace;)V"⟩
abbrev cX1_measure : ByteArray := prog_3_method_2_code
def yX1_measure : MethodName := ⟨RX1, "measure", "([III)I"⟩
abbrev cX1_aim : ByteArray := prog_3_method_3_code
def yX1_aim : MethodName := ⟨RX1, "aim", "([II)V"⟩
abbrev cX1_aimItem : ByteArray := prog_3_method_4_code
def yX1_aimItem : MethodName := ⟨RX1, "aimItem", "(III)V"⟩
abbrev cX1_walk : ByteArray := prog_3_method_5_code
def yX1_walk : MethodName := ⟨RX1, "walk", "(IZ)I"⟩
abbrev cX1_turnAt : ByteArray := prog_3_method_6_code
def yX1_turnAt : MethodName := ⟨RX1, "turnAt", "(II)I"⟩
abbrev cX1_lostAt : ByteArray := prog_3_method_7_code
def yX1_lostAt : MethodName := ⟨RX1, "lostAt", "(II)I"⟩
abbrev cX1_lostFrom : ByteArray := prog_3_method_8_code
def yX1_lostFrom : MethodName := ⟨RX1, "lostFrom", "(III)I"⟩
abbrev cX1_whenOf : ByteArray := prog_3_method_9_code
def yX1_whenOf : MethodName := ⟨RX1, "whenOf", "(I)I"⟩
abbrev cX1_lostAtFirst : ByteArray := prog_3_method_10_code
def yX1_lostAtFirst : MethodName := ⟨RX1, "lostAtFirst", "()I"⟩
abbrev cX1_lostBehindFirst : ByteArray := prog_3_method_11_code
def yX1_lostBehindFirst : MethodName := ⟨RX1, "lostBehindFirst", "()I"⟩
abbrev cX1_lostOn : ByteArray := prog_3_method_12_code
def yX1_lostOn : MethodName := ⟨RX1, "lostOn", "(I)I"⟩
def RX2 : String := "DrumPlacer$Laws"
def TX2 : u_T := fun k => match k with
  | 0 => ("DrumPlacer$Laws", "plan", "LDrumPlacer$Plan;", true)
  | 1 => ("DrumPlacer$Laws", "trace", "LDrumPlacer$Trace;", true)
  | 2 => ("DrumPlacer$Laws", "clock", "LDrumPlacer$Clock;", true)
  | _ => ("DrumPlacer$Laws", "taken", "[Z", true)
def tyX2 : Nat → FieldType := fun k => match k with
  | 0 => .object "DrumPlacer$Plan"
  | 1 => .object "DrumPlacer$Trace"
  | 2 => .object "DrumPlacer$Clock"
  | _ => .array .boolean
theorem nmX2 : ∀ a, a < 4 → ∀ b, b < 4 → a ≠ b → (TX2 a).2.1 ≠ (TX2 b).2.1 := by decide +kernel
theorem tyX2_ok : ∀ k, k < 4 → parseFieldDescriptor (TX2 k).2.2.1 = some (tyX2 k) := by decide +kernel
abbrev cX2_init : ByteArray := prog_4_method_1_code
def yX2_init : MethodName := ⟨RX2, "<init>", "(LDrumPlacer$Plan;LDrumPlacer$Trace;LDrumPlacer$Clock;)V"⟩
abbrev cX2_layInOrder : ByteArray := prog_4_method_2_code
def yX2_layInOrder : MethodName := ⟨RX2, "layInOrder", "([I)V"⟩
abbrev cX2_laySoonest : ByteArray := prog_4_method_3_code
def yX2_laySoonest : MethodName := ⟨RX2, "laySoonest", "([I)V"⟩
abbrev cX2_layFixed : ByteArray := prog_4_method_4_code
def yX2_layFixed : MethodName := ⟨RX2, "layFixed", "([I)V"⟩
abbrev cX2_layRest : ByteArray := prog_4_method_5_code
def yX2_layRest : MethodName := ⟨RX2, "layRest", "([I)V"⟩
abbrev cX2_lay : ByteArray := prog_4_method_6_code
def yX2_lay : MethodName := ⟨RX2, "lay", "([III)V"⟩
abbrev cX2_leastFree : ByteArray := prog_4_method_7_code
def yX2_leastFree : MethodName := ⟨RX2, "leastFree", "()I"⟩
abbrev cX2_soonest : ByteArray := prog_4_method_8_code
def yX2_soonest : MethodName := ⟨RX2, "soonest", "(I)I"⟩
def RX3 : String := "DrumPlacer$Plan"
def TX3 : u_T := fun k => match k with
  | 0 => ("DrumPlacer$Plan", "tracks", "I", false)
  | 1 => ("DrumPlacer$Plan", "sectors", "I", false)
  | 2 => ("DrumPlacer$Plan", "wait", "I", false)
  | 3 => ("DrumPlacer$Plan", "quick", "I", false)
  | 4 => ("DrumPlacer$Plan", "mul", "I", false)
  | 5 => ("DrumPlacer$Plan", "lines", "I", false)
  | 6 => ("DrumPlacer$Plan", "items", "I", false)
  | 7 => ("DrumPlacer$Plan", "words", "I", false)
  | 8 => ("DrumPlacer$Plan", "steps", "I", false)
  | 9 => ("DrumPlacer$Plan", "firstStep", "I", false)
  | 10 => ("DrumPlacer$Plan", "op", "[I", true)
  | 11 => ("DrumPlacer$Plan", "fixed", "[I", true)
  | 12 => ("DrumPlacer$Plan", "start", "[I", true)
  | 13 => ("DrumPlacer$Plan", "target", "[I", true)
  | 14 => ("DrumPlacer$Plan", "shift", "[I", true)
  | 15 => ("DrumPlacer$Plan", "next", "[I", true)
  | 16 => ("DrumPlacer$Plan", "wordItem", "[I", true)
  | _ => ("DrumPlacer$Plan", "wordRank", "[I", true)
def tyX3 : Nat → FieldType := fun k => match k with
  | 0 => .int
  | 1 => .int
  | 2 => .int
  | 3 => .int
  | 4 => .int
  | 5 => .int
  | 6 => .int
  | 7 => .int
  | 8 => .int
  | 9 => .int
  | 10 => .array .int
  | 11 => .array .int
  | 12 => .array .int
  | 13 => .array .int
  | 14 => .array .int
  | 15 => .array .int
  | 16 => .array .int
  | _ => .array .int
theorem nmX3 : ∀ a, a < 18 → ∀ b, b < 18 → a ≠ b → (TX3 a).2.1 ≠ (TX3 b).2.1 := by decide +kernel
theorem tyX3_ok : ∀ k, k < 18 → parseFieldDescriptor (TX3 k).2.2.1 = some (tyX3 k) := by decide +kernel
abbrev cX3_init : ByteArray := prog_5_method_1_code
def yX3_init : MethodName := ⟨RX3, "<init>", "()V"⟩
abbrev cX3_clear : ByteArray := prog_5_method_2_code
def yX3_clear : MethodName := ⟨RX3, "clear", "()V"⟩
abbrev cX3_copyFrom : ByteArray := prog_5_method_3_code
def yX3_copyFrom : MethodName := ⟨RX3, "copyFrom", "(LDrumPlacer$Plan;)V"⟩
abbrev cX3_addWord : ByteArray := prog_5_method_4_code
def yX3_addWord : MethodName := ⟨RX3, "addWord", "(II)V"⟩
abbrev cX3_addStep : ByteArray := prog_5_method_5_code
def yX3_addStep : MethodName := ⟨RX3, "addStep", "(III)V"⟩
abbrev cX3_addItem : ByteArray := prog_5_method_6_code
def yX3_addItem : MethodName := ⟨RX3, "addItem", "(II)V"⟩
abbrev cX3_isItem : ByteArray := prog_5_method_7_code
def yX3_isItem : MethodName := ⟨RX3, "isItem", "(I)Z"⟩
abbrev cX3_isStep : ByteArray := prog_5_method_8_code
def yX3_isStep : MethodName := ⟨RX3, "isStep", "(I)Z"⟩
abbrev cX3_isWord : ByteArray := prog_5_method_9_code
def yX3_isWord : MethodName := ⟨RX3, "isWord", "(I)Z"⟩
abbrev cX3_isFixed : ByteArray := prog_5_method_10_code
def yX3_isFixed : MethodName := ⟨RX3, "isFixed", "(I)Z"⟩
abbrev cX3_isAddress : ByteArray := prog_5_method_11_code
def yX3_isAddress : MethodName := ⟨RX3, "isAddress", "(I)Z"⟩
abbrev cX3_isToldAddress : ByteArray := prog_5_method_12_code
def yX3_isToldAddress : MethodName := ⟨RX3, "isToldAddress", "(I)Z"⟩
abbrev cX3_addresses : ByteArray := prog_5_method_13_code
def yX3_addresses : MethodName := ⟨RX3, "addresses", "()I"⟩
abbrev cX3_loose : ByteArray := prog_5_method_14_code
def yX3_loose : MethodName := ⟨RX3, "loose", "()I"⟩
abbrev cX3_wordFurther : ByteArray := prog_5_method_15_code
def yX3_wordFurther : MethodName := ⟨RX3, "wordFurther", "(II)I"⟩
def RX4 : String := "DrumPlacer$Reader"
def TX4 : u_T := fun k => match k with
  | 0 => ("DrumPlacer$Reader", "tokens", "LDrumPlacer$Tokens;", true)
  | 1 => ("DrumPlacer$Reader", "names", "[I", true)
  | 2 => ("DrumPlacer$Reader", "firstName", "[I", true)
  | 3 => ("DrumPlacer$Reader", "firstPlace", "[I", true)
  | 4 => ("DrumPlacer$Reader", "lastName", "[I", true)
  | 5 => ("DrumPlacer$Reader", "lastPlace", "[I", true)
  | 6 => ("DrumPlacer$Reader", "fault", "I", false)
  | _ => ("DrumPlacer$Reader", "faultPlace", "I", false)
def tyX4 : Nat → FieldType := fun k => match k with
  | 0 => .object "DrumPlacer$Tokens"
  | 1 => .array .int
  | 2 => .array .int
  | 3 => .array .int
  | 4 => .array .int
  | 5 => .array .int
  | 6 => .int
  | _ => .int
theorem nmX4 : ∀ a, a < 8 → ∀ b, b < 8 → a ≠ b → (TX4 a).2.1 ≠ (TX4 b).2.1 := by decide +kernel
theorem tyX4_ok : ∀ k, k < 8 → parseFieldDescriptor (TX4 k).2.2.1 = some (tyX4 k) := by decide +kernel
abbrev cX4_init : ByteArray := prog_6_method_1_code
def yX4_init : MethodName := ⟨RX4, "<init>", "(LDrumPlacer$Tape;)V"⟩
abbrev cX4_readText : ByteArray := prog_6_method_2_code
def yX4_readText : MethodName := ⟨RX4, "readText", "(LDrumPlacer$Plan;)V"⟩
abbrev cX4_goesOn : ByteArray := prog_6_method_3_code
def yX4_goesOn : MethodName := ⟨RX4, "goesOn", "()Z"⟩
abbrev cX4_readDrum : ByteArray := prog_6_method_4_code
def yX4_readDrum : MethodName := ⟨RX4, "readDrum", "(LDrumPlacer$Plan;)V"⟩
abbrev cX4_readWord : ByteArray := prog_6_method_5_code
def yX4_readWord : MethodName := ⟨RX4, "readWord", "(LDrumPlacer$Plan;)V"⟩
abbrev cX4_readStep : ByteArray := prog_6_method_6_code
def yX4_readStep : MethodName := ⟨RX4, "readStep", "(LDrumPlacer$Plan;)V"⟩
abbrev cX4_linkStep : ByteArray := prog_6_method_7_code
def yX4_linkStep : MethodName := ⟨RX4, "linkStep", "(LDrumPlacer$Plan;I)V"⟩
abbrev cX4_mayBeFirst : ByteArray := prog_6_method_8_code
def yX4_mayBeFirst : MethodName := ⟨RX4, "mayBeFirst", "(LDrumPlacer$Plan;II)Z"⟩
abbrev cX4_itemNamed : ByteArray := prog_6_method_9_code
def yX4_itemNamed : MethodName := ⟨RX4, "itemNamed", "(II)I"⟩
abbrev cX4_fail : ByteArray := prog_6_method_10_code
def yX4_fail : MethodName := ⟨RX4, "fail", "(I)V"⟩
abbrev cX4_failAt : ByteArray := prog_6_method_11_code
def yX4_failAt : MethodName := ⟨RX4, "failAt", "(II)V"⟩
abbrev cX4_takeSemicolon : ByteArray := prog_6_method_12_code
def yX4_takeSemicolon : MethodName := ⟨RX4, "takeSemicolon", "()V"⟩
abbrev cX4_takeWord : ByteArray := prog_6_method_13_code
def yX4_takeWord : MethodName := ⟨RX4, "takeWord", "(Ljava/lang/String;)V"⟩
abbrev cX4_takeItemWord : ByteArray := prog_6_method_14_code
def yX4_takeItemWord : MethodName := ⟨RX4, "takeItemWord", "(Ljava/lang/String;Z)V"⟩
abbrev cX4_takeItemName : ByteArray := prog_6_method_15_code
def yX4_takeItemName : MethodName := ⟨RX4, "takeItemName", "(I)V"⟩
abbrev cX4_mayBeOwnName : ByteArray := prog_6_method_16_code
def yX4_mayBeOwnName : MethodName := ⟨RX4, "mayBeOwnName", "(I)Z"⟩
abbrev cX4_takeMinus : ByteArray := prog_6_method_17_code
def yX4_takeMinus : MethodName := ⟨RX4, "takeMinus", "()Z"⟩
abbrev cX4_takeMeasure : ByteArray := prog_6_method_18_code
def yX4_takeMeasure : MethodName := ⟨RX4, "takeMeasure", "(Ljava/lang/String;II)I"⟩
abbrev cX4_takeNumber : ByteArray := prog_6_method_19_code
def yX4_takeNumber : MethodName := ⟨RX4, "takeNumber", "(II)I"⟩
abbrev cX4_takeQuick : ByteArray := prog_6_method_20_code
def yX4_takeQuick : MethodName := ⟨RX4, "takeQuick", "(I)I"⟩
abbrev cX4_takeOperation : ByteArray := prog_6_method_21_code
def yX4_takeOperation : MethodName := ⟨RX4, "takeOperation", "()I"⟩
abbrev cX4_takeReference : ByteArray := prog_6_method_22_code
def yX4_takeReference : MethodName := ⟨RX4, "takeReference", "(I[I[I)V"⟩
abbrev cX4_takeAddress : ByteArray := prog_6_method_23_code
def yX4_takeAddress : MethodName := ⟨RX4, "takeAddress", "(LDrumPlacer$Plan;)I"⟩
def RX5 : String := "DrumPlacer$Search"
def TX5 : u_T := fun k => match k with
  | 0 => ("DrumPlacer$Search", "plan", "LDrumPlacer$Plan;", true)
  | 1 => ("DrumPlacer$Search", "clock", "LDrumPlacer$Clock;", true)
  | 2 => ("DrumPlacer$Search", "loose", "[I", true)
  | 3 => ("DrumPlacer$Search", "looseCount", "I", false)
  | 4 => ("DrumPlacer$Search", "trial", "[I", true)
  | 5 => ("DrumPlacer$Search", "taken", "[Z", true)
  | 6 => ("DrumPlacer$Search", "group", "[I", true)
  | 7 => ("DrumPlacer$Search", "freeInGroup", "[I", true)
  | 8 => ("DrumPlacer$Search", "looked", "Z", false)
  | 9 => ("DrumPlacer$Search", "least", "I", false)
  | 10 => ("DrumPlacer$Search", "most", "I", false)
  | 11 => ("DrumPlacer$Search", "ways", "J", false)
  | _ => ("DrumPlacer$Search", "first", "[I", true)
def tyX5 : Nat → FieldType := fun k => match k with
  | 0 => .object "DrumPlacer$Plan"
  | 1 => .object "DrumPlacer$Clock"
  | 2 => .array .int
  | 3 => .int
  | 4 => .array .int
  | 5 => .array .boolean
  | 6 => .array .int
  | 7 => .array .int
  | 8 => .boolean
  | 9 => .int
  | 10 => .int
  | 11 => .long
  | _ => .array .int
theorem nmX5 : ∀ a, a < 13 → ∀ b, b < 13 → a ≠ b → (TX5 a).2.1 ≠ (TX5 b).2.1 := by decide +kernel
theorem tyX5_ok : ∀ k, k < 13 → parseFieldDescriptor (TX5 k).2.2.1 = some (tyX5 k) := by decide +kernel
abbrev cX5_init : ByteArray := prog_7_method_1_code
def yX5_init : MethodName := ⟨RX5, "<init>", "(LDrumPlacer$Plan;LDrumPlacer$Clock;)V"⟩
abbrev cX5_forget : ByteArray := prog_7_method_2_code
def yX5_forget : MethodName := ⟨RX5, "forget", "()V"⟩
abbrev cX5_look : ByteArray := prog_7_method_3_code
def yX5_look : MethodName := ⟨RX5, "look", "()V"⟩
abbrev cX5_takeFixed : ByteArray := prog_7_method_4_code
def yX5_takeFixed : MethodName := ⟨RX5, "takeFixed", "()V"⟩
abbrev cX5_groupAddresses : ByteArray := prog_7_method_5_code
def yX5_groupAddresses : MethodName := ⟨RX5, "groupAddresses", "()V"⟩
abbrev cX5_layLoose : ByteArray := prog_7_method_6_code
def yX5_layLoose : MethodName := ⟨RX5, "layLoose", "(IJ)V"⟩
abbrev cX5_judge : ByteArray := prog_7_method_7_code
def yX5_judge : MethodName := ⟨RX5, "judge", "(J)V"⟩
def RX6 : String := "DrumPlacer$Tape"
def TX6 : u_T := fun k => match k with
  | 0 => ("DrumPlacer$Tape", "bytes", "[I", true)
  | _ => ("DrumPlacer$Tape", "size", "I", false)
def tyX6 : Nat → FieldType := fun k => match k with
  | 0 => .array .int
  | _ => .int
theorem nmX6 : ∀ a, a < 2 → ∀ b, b < 2 → a ≠ b → (TX6 a).2.1 ≠ (TX6 b).2.1 := by decide +kernel
theorem tyX6_ok : ∀ k, k < 2 → parseFieldDescriptor (TX6 k).2.2.1 = some (tyX6 k) := by decide +kernel
abbrev cX6_init : ByteArray := prog_8_method_1_code
def yX6_init : MethodName := ⟨RX6, "<init>", "()V"⟩
abbrev cX6_append : ByteArray := prog_8_method_2_code
def yX6_append : MethodName := ⟨RX6, "append", "(I)V"⟩
abbrev cX6_byteAt : ByteArray := prog_8_method_3_code
def yX6_byteAt : MethodName := ⟨RX6, "byteAt", "(I)I"⟩
def RX7 : String := "DrumPlacer$Tokens"
def TX7 : u_T := fun k => match k with
  | 0 => ("DrumPlacer$Tokens", "tape", "LDrumPlacer$Tape;", true)
  | 1 => ("DrumPlacer$Tokens", "kind", "I", false)
  | 2 => ("DrumPlacer$Tokens", "place", "I", false)
  | 3 => ("DrumPlacer$Tokens", "number", "I", false)
  | 4 => ("DrumPlacer$Tokens", "name", "I", false)
  | 5 => ("DrumPlacer$Tokens", "behind", "I", false)
  | _ => ("DrumPlacer$Tokens", "stopped", "Z", false)
def tyX7 : Nat → FieldType := fun k => match k with
  | 0 => .object "DrumPlacer$Tape"
  | 1 => .int
  | 2 => .int
  | 3 => .int
  | 4 => .int
  | 5 => .int
  | _ => .boolean
theorem nmX7 : ∀ a, a < 7 → ∀ b, b < 7 → a ≠ b → (TX7 a).2.1 ≠ (TX7 b).2.1 := by decide +kernel
theorem tyX7_ok : ∀ k, k < 7 → parseFieldDescriptor (TX7 k).2.2.1 = some (tyX7 k) := by decide +kernel
abbrev cX7_init : ByteArray := prog_9_method_1_code
def yX7_init : MethodName := ⟨RX7, "<init>", "(LDrumPlacer$Tape;)V"⟩
abbrev cX7_begin : ByteArray := prog_9_method_2_code
def yX7_begin : MethodName := ⟨RX7, "begin", "()V"⟩
abbrev cX7_stop : ByteArray := prog_9_method_3_code
def yX7_stop : MethodName := ⟨RX7, "stop", "()V"⟩
abbrev cX7_advance : ByteArray := prog_9_method_4_code
def yX7_advance : MethodName := ⟨RX7, "advance", "()V"⟩
abbrev cX7_is : ByteArray := prog_9_method_5_code
def yX7_is : MethodName := ⟨RX7, "is", "(Ljava/lang/String;)Z"⟩
abbrev cX7_isLineWord : ByteArray := prog_9_method_6_code
def yX7_isLineWord : MethodName := ⟨RX7, "isLineWord", "()Z"⟩
abbrev cX7_operation : ByteArray := prog_9_method_7_code
def yX7_operation : MethodName := ⟨RX7, "operation", "()I"⟩
abbrev cX7_skipBlanks : ByteArray := prog_9_method_8_code
def yX7_skipBlanks : MethodName := ⟨RX7, "skipBlanks", "()V"⟩
abbrev cX7_takeLetters : ByteArray := prog_9_method_9_code
def yX7_takeLetters : MethodName := ⟨RX7, "takeLetters", "()V"⟩
abbrev cX7_takeDigits : ByteArray := prog_9_method_10_code
def yX7_takeDigits : MethodName := ⟨RX7, "takeDigits", "()V"⟩
abbrev cX7_isBlank : ByteArray := prog_9_method_11_code
def yX7_isBlank : MethodName := ⟨RX7, "isBlank", "(I)Z"⟩
abbrev cX7_isLetter : ByteArray := prog_9_method_12_code
def yX7_isLetter : MethodName := ⟨RX7, "isLetter", "(I)Z"⟩
abbrev cX7_isDigit : ByteArray := prog_9_method_13_code
def yX7_isDigit : MethodName := ⟨RX7, "isDigit", "(I)Z"⟩
def RX8 : String := "DrumPlacer$Trace"
def TX8 : u_T := fun k => match k with
  | 0 => ("DrumPlacer$Trace", "plan", "LDrumPlacer$Plan;", true)
  | 1 => ("DrumPlacer$Trace", "done", "I", false)
  | 2 => ("DrumPlacer$Trace", "ending", "I", false)
  | 3 => ("DrumPlacer$Trace", "acc", "I", false)
  | 4 => ("DrumPlacer$Trace", "value", "[I", true)
  | 5 => ("DrumPlacer$Trace", "operand", "[I", true)
  | 6 => ("DrumPlacer$Trace", "stepDone", "[I", true)
  | 7 => ("DrumPlacer$Trace", "operandRead", "[I", true)
  | 8 => ("DrumPlacer$Trace", "accBehind", "[I", true)
  | 9 => ("DrumPlacer$Trace", "readingOf", "[I", true)
  | 10 => ("DrumPlacer$Trace", "readings", "I", false)
  | 11 => ("DrumPlacer$Trace", "itemRead", "[I", true)
  | 12 => ("DrumPlacer$Trace", "behind", "[I", true)
  | 13 => ("DrumPlacer$Trace", "passesToCome", "[I", true)
  | 14 => ("DrumPlacer$Trace", "passReadings", "[I", true)
  | 15 => ("DrumPlacer$Trace", "stepsSaved", "[I", true)
  | _ => ("DrumPlacer$Trace", "passSteps", "[I", true)
def tyX8 : Nat → FieldType := fun k => match k with
  | 0 => .object "DrumPlacer$Plan"
  | 1 => .int
  | 2 => .int
  | 3 => .int
  | 4 => .array .int
  | 5 => .array .int
  | 6 => .array .int
  | 7 => .array .int
  | 8 => .array .int
  | 9 => .array .int
  | 10 => .int
  | 11 => .array .int
  | 12 => .array .int
  | 13 => .array .int
  | 14 => .array .int
  | 15 => .array .int
  | _ => .array .int
theorem nmX8 : ∀ a, a < 17 → ∀ b, b < 17 → a ≠ b → (TX8 a).2.1 ≠ (TX8 b).2.1 := by decide +kernel
theorem tyX8_ok : ∀ k, k < 17 → parseFieldDescriptor (TX8 k).2.2.1 = some (tyX8 k) := by decide +kernel
abbrev cX8_init : ByteArray := prog_10_method_1_code
def yX8_init : MethodName := ⟨RX8, "<init>", "(LDrumPlacer$Plan;)V"⟩
abbrev cX8_perform : ByteArray := prog_10_method_2_code
def yX8_perform : MethodName := ⟨RX8, "perform", "()V"⟩
abbrev cX8_doStep : ByteArray := prog_10_method_3_code
def yX8_doStep : MethodName := ⟨RX8, "doStep", "(II)I"⟩
abbrev cX8_addReading : ByteArray := prog_10_method_4_code
def yX8_addReading : MethodName := ⟨RX8, "addReading", "(II)V"⟩
abbrev cX8_carryOut : ByteArray := prog_10_method_5_code
def yX8_carryOut : MethodName := ⟨RX8, "carryOut", "(III)V"⟩
abbrev cX8_moveOperand : ByteArray := prog_10_method_6_code
def yX8_moveOperand : MethodName := ⟨RX8, "moveOperand", "(II)V"⟩
abbrev cX8_within : ByteArray := prog_10_method_7_code
def yX8_within : MethodName := ⟨RX8, "within", "(I)I"⟩
abbrev cX8_markPasses : ByteArray := prog_10_method_8_code
def yX8_markPasses : MethodName := ⟨RX8, "markPasses", "()V"⟩
abbrev cX8_weighPasses : ByteArray := prog_10_method_9_code
def yX8_weighPasses : MethodName := ⟨RX8, "weighPasses", "(I)V"⟩
abbrev cX8_markPassesFrom : ByteArray := prog_10_method_10_code
def yX8_markPassesFrom : MethodName := ⟨RX8, "markPassesFrom", "(II)I"⟩
abbrev cX8_readingsOf : ByteArray := prog_10_method_11_code
def yX8_readingsOf : MethodName := ⟨RX8, "readingsOf", "(I)I"⟩
def RX9 : String := "DrumPlacer"
def TX9 : u_T := fun k => match k with
  | 0 => ("DrumPlacer", "tape", "LDrumPlacer$Tape;", true)
  | 1 => ("DrumPlacer", "reader", "LDrumPlacer$Reader;", true)
  | 2 => ("DrumPlacer", "draft", "LDrumPlacer$Plan;", true)
  | 3 => ("DrumPlacer", "plan", "LDrumPlacer$Plan;", true)
  | 4 => ("DrumPlacer", "trace", "LDrumPlacer$Trace;", true)
  | 5 => ("DrumPlacer", "clock", "LDrumPlacer$Clock;", true)
  | 6 => ("DrumPlacer", "laws", "LDrumPlacer$Laws;", true)
  | 7 => ("DrumPlacer", "search", "LDrumPlacer$Search;", true)
  | 8 => ("DrumPlacer", "acts", "LDrumPlacer$Acts;", true)
  | 9 => ("DrumPlacer", "laying", "[I", true)
  | 10 => ("DrumPlacer", "lawLaying", "[I", true)
  | 11 => ("DrumPlacer", "fault", "I", false)
  | _ => ("DrumPlacer", "faultPlace", "I", false)
def tyX9 : Nat → FieldType := fun k => match k with
  | 0 => .object "DrumPlacer$Tape"
  | 1 => .object "DrumPlacer$Reader"
  | 2 => .object "DrumPlacer$Plan"
  | 3 => .object "DrumPlacer$Plan"
  | 4 => .object "DrumPlacer$Trace"
  | 5 => .object "DrumPlacer$Clock"
  | 6 => .object "DrumPlacer$Laws"
  | 7 => .object "DrumPlacer$Search"
  | 8 => .object "DrumPlacer$Acts"
  | 9 => .array .int
  | 10 => .array .int
  | 11 => .int
  | _ => .int
theorem nmX9 : ∀ a, a < 13 → ∀ b, b < 13 → a ≠ b → (TX9 a).2.1 ≠ (TX9 b).2.1 := by decide +kernel
theorem tyX9_ok : ∀ k, k < 13 → parseFieldDescriptor (TX9 k).2.2.1 = some (tyX9 k) := by decide +kernel
abbrev cX9_init : ByteArray := prog_1_method_1_code
def yX9_init : MethodName := ⟨RX9, "<init>", "()V"⟩
abbrev cX9_feed : ByteArray := prog_1_method_2_code
def yX9_feed : MethodName := ⟨RX9, "feed", "(IIIII)I"⟩
abbrev cX9_end : ByteArray := prog_1_method_3_code
def yX9_end : MethodName := ⟨RX9, "end", "(I)I"⟩
abbrev cX9_drum : ByteArray := prog_1_method_4_code
def yX9_drum : MethodName := ⟨RX9, "drum", "()I"⟩
abbrev cX9_fault : ByteArray := prog_1_method_5_code
def yX9_fault : MethodName := ⟨RX9, "fault", "(I)I"⟩
abbrev cX9_count : ByteArray := prog_1_method_6_code
def yX9_count : MethodName := ⟨RX9, "count", "(I)I"⟩
abbrev cX9_item : ByteArray := prog_1_method_7_code
def yX9_item : MethodName := ⟨RX9, "item", "(II)I"⟩
abbrev cX9_at : ByteArray := prog_1_method_8_code
def yX9_at : MethodName := ⟨RX9, "at", "(I)I"⟩
abbrev cX9_steps : ByteArray := prog_1_method_9_code
def yX9_steps : MethodName := ⟨RX9, "steps", "()I"⟩
abbrev cX9_why : ByteArray := prog_1_method_10_code
def yX9_why : MethodName := ⟨RX9, "why", "()I"⟩
abbrev cX9_acc : ByteArray := prog_1_method_11_code
def yX9_acc : MethodName := ⟨RX9, "acc", "()I"⟩
abbrev cX9_value : ByteArray := prog_1_method_12_code
def yX9_value : MethodName := ⟨RX9, "value", "(I)I"⟩
abbrev cX9_done : ByteArray := prog_1_method_13_code
def yX9_done : MethodName := ⟨RX9, "done", "(II)I"⟩
abbrev cX9_time : ByteArray := prog_1_method_14_code
def yX9_time : MethodName := ⟨RX9, "time", "()I"⟩
abbrev cX9_rounds : ByteArray := prog_1_method_15_code
def yX9_rounds : MethodName := ⟨RX9, "rounds", "()I"⟩
abbrev cX9_lost : ByteArray := prog_1_method_16_code
def yX9_lost : MethodName := ⟨RX9, "lost", "()I"⟩
abbrev cX9_lostFor : ByteArray := prog_1_method_17_code
def yX9_lostFor : MethodName := ⟨RX9, "lostFor", "(I)I"⟩
abbrev cX9_worst : ByteArray := prog_1_method_18_code
def yX9_worst : MethodName := ⟨RX9, "worst", "()I"⟩
abbrev cX9_met : ByteArray := prog_1_method_19_code
def yX9_met : MethodName := ⟨RX9, "met", "(I)I"⟩
abbrev cX9_bound : ByteArray := prog_1_method_20_code
def yX9_bound : MethodName := ⟨RX9, "bound", "()I"⟩
abbrev cX9_waiting : ByteArray := prog_1_method_21_code
def yX9_waiting : MethodName := ⟨RX9, "waiting", "(I)I"⟩
abbrev cX9_quicker : ByteArray := prog_1_method_22_code
def yX9_quicker : MethodName := ⟨RX9, "quicker", "(I)I"⟩
abbrev cX9_moved : ByteArray := prog_1_method_23_code
def yX9_moved : MethodName := ⟨RX9, "moved", "(II)I"⟩
abbrev cX9_swapped : ByteArray := prog_1_method_24_code
def yX9_swapped : MethodName := ⟨RX9, "swapped", "(II)I"⟩
abbrev cX9_best : ByteArray := prog_1_method_25_code
def yX9_best : MethodName := ⟨RX9, "best", "()I"⟩
abbrev cX9_pair : ByteArray := prog_1_method_26_code
def yX9_pair : MethodName := ⟨RX9, "pair", "()I"⟩
abbrev cX9_idle : ByteArray := prog_1_method_27_code
def yX9_idle : MethodName := ⟨RX9, "idle", "()I"⟩
abbrev cX9_lawful : ByteArray := prog_1_method_28_code
def yX9_lawful : MethodName := ⟨RX9, "lawful", "(I)I"⟩
abbrev cX9_address : ByteArray := prog_1_method_29_code
def yX9_address : MethodName := ⟨RX9, "address", "(II)I"⟩
abbrev cX9_ways : ByteArray := prog_1_method_30_code
def yX9_ways : MethodName := ⟨RX9, "ways", "()J"⟩
abbrev cX9_dearest : ByteArray := prog_1_method_31_code
def yX9_dearest : MethodName := ⟨RX9, "dearest", "()I"⟩
abbrev cX9_put : ByteArray := prog_1_method_32_code
def yX9_put : MethodName := ⟨RX9, "put", "(II)I"⟩
abbrev cX9_swap : ByteArray := prog_1_method_33_code
def yX9_swap : MethodName := ⟨RX9, "swap", "(II)I"⟩
abbrev cX9_lays : ByteArray := prog_1_method_34_code
def yX9_lays : MethodName := ⟨RX9, "lays", "(I)I"⟩
abbrev cX9_undo : ByteArray := prog_1_method_35_code
def yX9_undo : MethodName := ⟨RX9, "undo", "()I"⟩
abbrev cX9_anew : ByteArray := prog_1_method_36_code
def yX9_anew : MethodName := ⟨RX9, "anew", "()I"⟩
abbrev cX9_itemAt : ByteArray := prog_1_method_37_code
def yX9_itemAt : MethodName := ⟨RX9, "itemAt", "(I)I"⟩
abbrev cX9_timeNow : ByteArray := prog_1_method_38_code
def yX9_timeNow : MethodName := ⟨RX9, "timeNow", "()I"⟩
abbrev cX9_whenRead : ByteArray := prog_1_method_39_code
def yX9_whenRead : MethodName := ⟨RX9, "whenRead", "(I)I"⟩
abbrev cX9_lostInAll : ByteArray := prog_1_method_40_code
def yX9_lostInAll : MethodName := ⟨RX9, "lostInAll", "()I"⟩
abbrev cX9_refusalOfMove : ByteArray := prog_1_method_41_code
def yX9_refusalOfMove : MethodName := ⟨RX9, "refusalOfMove", "(II)I"⟩
abbrev cX9_refusalOfExchange : ByteArray := prog_1_method_42_code
def yX9_refusalOfExchange : MethodName := ⟨RX9, "refusalOfExchange", "(II)I"⟩
abbrev cX9_refusalOfLaw : ByteArray := prog_1_method_43_code
def yX9_refusalOfLaw : MethodName := ⟨RX9, "refusalOfLaw", "(I)I"⟩
abbrev cX9_isMove : ByteArray := prog_1_method_44_code
def yX9_isMove : MethodName := ⟨RX9, "isMove", "(II)Z"⟩
abbrev cX9_timeMoved : ByteArray := prog_1_method_45_code
def yX9_timeMoved : MethodName := ⟨RX9, "timeMoved", "(II)I"⟩
abbrev cX9_timeExchanged : ByteArray := prog_1_method_46_code
def yX9_timeExchanged : MethodName := ⟨RX9, "timeExchanged", "(II)I"⟩
abbrev cX9_exchange : ByteArray := prog_1_method_47_code
def yX9_exchange : MethodName := ⟨RX9, "exchange", "(II)V"⟩
abbrev cX9_layBy : ByteArray := prog_1_method_48_code
def yX9_layBy : MethodName := ⟨RX9, "layBy", "(I[I)V"⟩
abbrev cX9_copyItems : ByteArray := prog_1_method_49_code
def yX9_copyItems : MethodName := ⟨RX9, "copyItems", "([I[I)V"⟩
abbrev cX9_isQuick : ByteArray := prog_1_method_50_code
def yX9_isQuick : MethodName := ⟨RX9, "isQuick", "(II)Z"⟩
def RX10 : String := "DrumPlacerModel"
def TX10 : u_T := fun k => match k with
  | 0 => ("DrumPlacerModel", "mem", "[I", true)
  | 1 => ("DrumPlacerModel", "was", "[I", true)
  | 2 => ("DrumPlacerModel", "past", "[I", true)
  | 3 => ("DrumPlacerModel", "tape", "[I", true)
  | 4 => ("DrumPlacerModel", "taped", "I", false)
  | 5 => ("DrumPlacerModel", "faultKind", "I", false)
  | 6 => ("DrumPlacerModel", "faultPlace", "I", false)
  | 7 => ("DrumPlacerModel", "at", "I", false)
  | 8 => ("DrumPlacerModel", "begin", "I", false)
  | 9 => ("DrumPlacerModel", "token", "I", false)
  | 10 => ("DrumPlacerModel", "value", "I", false)
  | 11 => ("DrumPlacerModel", "kept", "I", false)
  | 12 => ("DrumPlacerModel", "bad", "Z", false)
  | 13 => ("DrumPlacerModel", "badKind", "I", false)
  | 14 => ("DrumPlacerModel", "badPlace", "I", false)
  | 15 => ("DrumPlacerModel", "nameAt", "[I", true)
  | 16 => ("DrumPlacerModel", "nameLong", "[I", true)
  | 17 => ("DrumPlacerModel", "refAt", "[I", true)
  | 18 => ("DrumPlacerModel", "refLong", "[I", true)
  | 19 => ("DrumPlacerModel", "refOf", "[I", true)
  | 20 => ("DrumPlacerModel", "refIsLast", "[Z", true)
  | 21 => ("DrumPlacerModel", "refs", "I", false)
  | 22 => ("DrumPlacerModel", "words", "I", false)
  | 23 => ("DrumPlacerModel", "steps", "I", false)
  | 24 => ("DrumPlacerModel", "readItem", "[I", true)
  | 25 => ("DrumPlacerModel", "readGap", "[I", true)
  | 26 => ("DrumPlacerModel", "readWhen", "[I", true)
  | 27 => ("DrumPlacerModel", "reads", "I", false)
  | 28 => ("DrumPlacerModel", "endsByMul", "Z", false)
  | 29 => ("DrumPlacerModel", "doneItem", "[I", true)
  | 30 => ("DrumPlacerModel", "doneOperand", "[I", true)
  | 31 => ("DrumPlacerModel", "doneRead", "[I", true)
  | 32 => ("DrumPlacerModel", "doneAcc", "[I", true)
  | 33 => ("DrumPlacerModel", "done", "I", false)
  | 34 => ("DrumPlacerModel", "acc", "I", false)
  | 35 => ("DrumPlacerModel", "end", "I", false)
  | 36 => ("DrumPlacerModel", "has", "[I", true)
  | 37 => ("DrumPlacerModel", "operand", "[I", true)
  | 38 => ("DrumPlacerModel", "places", "[I", true)
  | 39 => ("DrumPlacerModel", "wait", "I", false)
  | 40 => ("DrumPlacerModel", "quick", "I", false)
  | 41 => ("DrumPlacerModel", "laid", "[I", true)
  | 42 => ("DrumPlacerModel", "isBest", "Z", false)
  | 43 => ("DrumPlacerModel", "leastTime", "I", false)
  | 44 => ("DrumPlacerModel", "leastWays", "J", false)
  | 45 => ("DrumPlacerModel", "mostTime", "I", false)
  | 46 => ("DrumPlacerModel", "bestPlaces", "[I", true)
  | 47 => ("DrumPlacerModel", "classOf", "[I", true)
  | 48 => ("DrumPlacerModel", "classHas", "[I", true)
  | 49 => ("DrumPlacerModel", "pick", "[I", true)
  | 50 => ("DrumPlacerModel", "freeItem", "[I", true)
  | 51 => ("DrumPlacerModel", "picks", "I", false)
  | _ => ("DrumPlacerModel", "classes", "I", false)
def tyX10 : Nat → FieldType := fun k => match k with
  | 0 => .array .int
  | 1 => .array .int
  | 2 => .array .int
  | 3 => .array .int
  | 4 => .int
  | 5 => .int
  | 6 => .int
  | 7 => .int
  | 8 => .int
  | 9 => .int
  | 10 => .int
  | 11 => .int
  | 12 => .boolean
  | 13 => .int
  | 14 => .int
  | 15 => .array .int
  | 16 => .array .int
  | 17 => .array .int
  | 18 => .array .int
  | 19 => .array .int
  | 20 => .array .boolean
  | 21 => .int
  | 22 => .int
  | 23 => .int
  | 24 => .array .int
  | 25 => .array .int
  | 26 => .array .int
  | 27 => .int
  | 28 => .boolean
  | 29 => .array .int
  | 30 => .array .int
  | 31 => .array .int
  | 32 => .array .int
  | 33 => .int
  | 34 => .int
  | 35 => .int
  | 36 => .array .int
  | 37 => .array .int
  | 38 => .array .int
  | 39 => .int
  | 40 => .int
  | 41 => .array .int
  | 42 => .boolean
  | 43 => .int
  | 44 => .long
  | 45 => .int
  | 46 => .array .int
  | 47 => .array .int
  | 48 => .array .int
  | 49 => .array .int
  | 50 => .array .int
  | 51 => .int
  | _ => .int
theorem nmX10 : ∀ a, a < 53 → ∀ b, b < 53 → a ≠ b → (TX10 a).2.1 ≠ (TX10 b).2.1 := by decide +kernel
theorem tyX10_ok : ∀ k, k < 53 → parseFieldDescriptor (TX10 k).2.2.1 = some (tyX10 k) := by decide +kernel
abbrev cX10_in : ByteArray := prog_12_method_1_code
def yX10_in : MethodName := ⟨RX10, "in", "(JJJ)Z"⟩
abbrev cX10_init : ByteArray := prog_12_method_2_code
def yX10_init : MethodName := ⟨RX10, "<init>", "()V"⟩
abbrev cX10_feed : ByteArray := prog_12_method_3_code
def yX10_feed : MethodName := ⟨RX10, "feed", "(IIIII)I"⟩
abbrev cX10_end : ByteArray := prog_12_method_4_code
def yX10_end : MethodName := ⟨RX10, "end", "(I)I"⟩
abbrev cX10_isAt : ByteArray := prog_12_method_5_code
def yX10_isAt : MethodName := ⟨RX10, "isAt", "(II)Z"⟩
abbrev cX10_next : ByteArray := prog_12_method_6_code
def yX10_next : MethodName := ⟨RX10, "next", "()V"⟩
abbrev cX10_keptHere : ByteArray := prog_12_method_7_code
def yX10_keptHere : MethodName := ⟨RX10, "keptHere", "()I"⟩
abbrev cX10_isWord : ByteArray := prog_12_method_8_code
def yX10_isWord : MethodName := ⟨RX10, "isWord", "(Ljava/lang/String;)Z"⟩
abbrev cX10_isSign : ByteArray := prog_12_method_9_code
def yX10_isSign : MethodName := ⟨RX10, "isSign", "(C)Z"⟩
abbrev cX10_faults : ByteArray := prog_12_method_10_code
def yX10_faults : MethodName := ⟨RX10, "faults", "(I)V"⟩
abbrev cX10_passes : ByteArray := prog_12_method_11_code
def yX10_passes : MethodName := ⟨RX10, "passes", "(Z)V"⟩
abbrev cX10_reads : ByteArray := prog_12_method_12_code
def yX10_reads : MethodName := ⟨RX10, "reads", "(II)I"⟩
abbrev cX10_named : ByteArray := prog_12_method_13_code
def yX10_named : MethodName := ⟨RX10, "named", "(Ljava/lang/String;II)I"⟩
abbrev cX10_readsDrum : ByteArray := prog_12_method_14_code
def yX10_readsDrum : MethodName := ⟨RX10, "readsDrum", "()V"⟩
abbrev cX10_isQuick : ByteArray := prog_12_method_15_code
def yX10_isQuick : MethodName := ⟨RX10, "isQuick", "(I)Z"⟩
abbrev cX10_isAlike : ByteArray := prog_12_method_16_code
def yX10_isAlike : MethodName := ⟨RX10, "isAlike", "(IIII)Z"⟩
abbrev cX10_itemNamed : ByteArray := prog_12_method_17_code
def yX10_itemNamed : MethodName := ⟨RX10, "itemNamed", "(II)I"⟩
abbrev cX10_readsName : ByteArray := prog_12_method_18_code
def yX10_readsName : MethodName := ⟨RX10, "readsName", "()V"⟩
abbrev cX10_readsRef : ByteArray := prog_12_method_19_code
def yX10_readsRef : MethodName := ⟨RX10, "readsRef", "(Z)V"⟩
abbrev cX10_readsOp : ByteArray := prog_12_method_20_code
def yX10_readsOp : MethodName := ⟨RX10, "readsOp", "()V"⟩
abbrev cX10_readsItem : ByteArray := prog_12_method_21_code
def yX10_readsItem : MethodName := ⟨RX10, "readsItem", "()V"⟩
abbrev cX10_many : ByteArray := prog_12_method_22_code
def yX10_many : MethodName := ⟨RX10, "many", "()I"⟩
abbrev cX10_fixedAt : ByteArray := prog_12_method_23_code
def yX10_fixedAt : MethodName := ⟨RX10, "fixedAt", "(I)I"⟩
abbrev cX10_resolves : ByteArray := prog_12_method_24_code
def yX10_resolves : MethodName := ⟨RX10, "resolves", "()V"⟩
abbrev cX10_drum : ByteArray := prog_12_method_25_code
def yX10_drum : MethodName := ⟨RX10, "drum", "()I"⟩
abbrev cX10_wordsOf : ByteArray := prog_12_method_26_code
def yX10_wordsOf : MethodName := ⟨RX10, "wordsOf", "()I"⟩
abbrev cX10_fault : ByteArray := prog_12_method_27_code
def yX10_fault : MethodName := ⟨RX10, "fault", "(I)I"⟩
abbrev cX10_freeItems : ByteArray := prog_12_method_28_code
def yX10_freeItems : MethodName := ⟨RX10, "freeItems", "()I"⟩
abbrev cX10_count : ByteArray := prog_12_method_29_code
def yX10_count : MethodName := ⟨RX10, "count", "(I)I"⟩
abbrev cX10_isItem : ByteArray := prog_12_method_30_code
def yX10_isItem : MethodName := ⟨RX10, "isItem", "(I)Z"⟩
abbrev cX10_item : ByteArray := prog_12_method_31_code
def yX10_item : MethodName := ⟨RX10, "item", "(II)I"⟩
abbrev cX10_itemAt : ByteArray := prog_12_method_32_code
def yX10_itemAt : MethodName := ⟨RX10, "itemAt", "(I)I"⟩
abbrev cX10_at : ByteArray := prog_12_method_33_code
def yX10_at : MethodName := ⟨RX10, "at", "(I)I"⟩
abbrev cX10_rounded : ByteArray := prog_12_method_34_code
def yX10_rounded : MethodName := ⟨RX10, "rounded", "(I)I"⟩
abbrev cX10_reading : ByteArray := prog_12_method_35_code
def yX10_reading : MethodName := ⟨RX10, "reading", "(II)V"⟩
abbrev cX10_hasRun : ByteArray := prog_12_method_36_code
def yX10_hasRun : MethodName := ⟨RX10, "hasRun", "()Z"⟩
abbrev cX10_runs : ByteArray := prog_12_method_37_code
def yX10_runs : MethodName := ⟨RX10, "runs", "()V"⟩
abbrev cX10_goes : ByteArray := prog_12_method_38_code
def yX10_goes : MethodName := ⟨RX10, "goes", "(II)V"⟩
abbrev cX10_wordBehind : ByteArray := prog_12_method_39_code
def yX10_wordBehind : MethodName := ⟨RX10, "wordBehind", "(II)I"⟩
abbrev cX10_takes : ByteArray := prog_12_method_40_code
def yX10_takes : MethodName := ⟨RX10, "takes", "()V"⟩
abbrev cX10_whenAt : ByteArray := prog_12_method_41_code
def yX10_whenAt : MethodName := ⟨RX10, "whenAt", "(II)I"⟩
abbrev cX10_waited : ByteArray := prog_12_method_42_code
def yX10_waited : MethodName := ⟨RX10, "waited", "(I)I"⟩
abbrev cX10_timed : ByteArray := prog_12_method_43_code
def yX10_timed : MethodName := ⟨RX10, "timed", "()I"⟩
abbrev cX10_timeNow : ByteArray := prog_12_method_44_code
def yX10_timeNow : MethodName := ⟨RX10, "timeNow", "()I"⟩
abbrev cX10_lostAt : ByteArray := prog_12_method_45_code
def yX10_lostAt : MethodName := ⟨RX10, "lostAt", "(I)I"⟩
abbrev cX10_steps : ByteArray := prog_12_method_46_code
def yX10_steps : MethodName := ⟨RX10, "steps", "()I"⟩
abbrev cX10_why : ByteArray := prog_12_method_47_code
def yX10_why : MethodName := ⟨RX10, "why", "()I"⟩
abbrev cX10_acc : ByteArray := prog_12_method_48_code
def yX10_acc : MethodName := ⟨RX10, "acc", "()I"⟩
abbrev cX10_value : ByteArray := prog_12_method_49_code
def yX10_value : MethodName := ⟨RX10, "value", "(I)I"⟩
abbrev cX10_done : ByteArray := prog_12_method_50_code
def yX10_done : MethodName := ⟨RX10, "done", "(II)I"⟩
abbrev cX10_time : ByteArray := prog_12_method_51_code
def yX10_time : MethodName := ⟨RX10, "time", "()I"⟩
abbrev cX10_rounds : ByteArray := prog_12_method_52_code
def yX10_rounds : MethodName := ⟨RX10, "rounds", "()I"⟩
abbrev cX10_lostOf : ByteArray := prog_12_method_53_code
def yX10_lostOf : MethodName := ⟨RX10, "lostOf", "(I)I"⟩
abbrev cX10_lost : ByteArray := prog_12_method_54_code
def yX10_lost : MethodName := ⟨RX10, "lost", "()I"⟩
abbrev cX10_lostFor : ByteArray := prog_12_method_55_code
def yX10_lostFor : MethodName := ⟨RX10, "lostFor", "(I)I"⟩
abbrev cX10_worst : ByteArray := prog_12_method_56_code
def yX10_worst : MethodName := ⟨RX10, "worst", "()I"⟩
abbrev cX10_met : ByteArray := prog_12_method_57_code
def yX10_met : MethodName := ⟨RX10, "met", "(I)I"⟩
abbrev cX10_bound : ByteArray := prog_12_method_58_code
def yX10_bound : MethodName := ⟨RX10, "bound", "()I"⟩
abbrev cX10_waiting : ByteArray := prog_12_method_59_code
def yX10_waiting : MethodName := ⟨RX10, "waiting", "(I)I"⟩
abbrev cX10_quicker : ByteArray := prog_12_method_60_code
def yX10_quicker : MethodName := ⟨RX10, "quicker", "(I)I"⟩
abbrev cX10_timeMoved : ByteArray := prog_12_method_61_code
def yX10_timeMoved : MethodName := ⟨RX10, "timeMoved", "(II)I"⟩
abbrev cX10_timeSwapped : ByteArray := prog_12_method_62_code
def yX10_timeSwapped : MethodName := ⟨RX10, "timeSwapped", "(II)I"⟩
abbrev cX10_isFree : ByteArray := prog_12_method_63_code
def yX10_isFree : MethodName := ⟨RX10, "isFree", "(I)Z"⟩
abbrev cX10_whyNot : ByteArray := prog_12_method_64_code
def yX10_whyNot : MethodName := ⟨RX10, "whyNot", "(II)I"⟩
abbrev cX10_moved : ByteArray := prog_12_method_65_code
def yX10_moved : MethodName := ⟨RX10, "moved", "(II)I"⟩
abbrev cX10_whyNotBoth : ByteArray := prog_12_method_66_code
def yX10_whyNotBoth : MethodName := ⟨RX10, "whyNotBoth", "(II)I"⟩
abbrev cX10_swapped : ByteArray := prog_12_method_67_code
def yX10_swapped : MethodName := ⟨RX10, "swapped", "(II)I"⟩
abbrev cX10_best : ByteArray := prog_12_method_68_code
def yX10_best : MethodName := ⟨RX10, "best", "()I"⟩
abbrev cX10_pair : ByteArray := prog_12_method_69_code
def yX10_pair : MethodName := ⟨RX10, "pair", "()I"⟩
abbrev cX10_idle : ByteArray := prog_12_method_70_code
def yX10_idle : MethodName := ⟨RX10, "idle", "()I"⟩
abbrev cX10_isTaken : ByteArray := prog_12_method_71_code
def yX10_isTaken : MethodName := ⟨RX10, "isTaken", "(I)Z"⟩
abbrev cX10_laysFixed : ByteArray := prog_12_method_72_code
def yX10_laysFixed : MethodName := ⟨RX10, "laysFixed", "()V"⟩
abbrev cX10_laysRest : ByteArray := prog_12_method_73_code
def yX10_laysRest : MethodName := ⟨RX10, "laysRest", "()V"⟩
abbrev cX10_laysSoon : ByteArray := prog_12_method_74_code
def yX10_laysSoon : MethodName := ⟨RX10, "laysSoon", "()V"⟩
abbrev cX10_laysClasses : ByteArray := prog_12_method_75_code
def yX10_laysClasses : MethodName := ⟨RX10, "laysClasses", "()V"⟩
abbrev cX10_triesAll : ByteArray := prog_12_method_76_code
def yX10_triesAll : MethodName := ⟨RX10, "triesAll", "()V"⟩
abbrev cX10_placeOf : ByteArray := prog_12_method_77_code
def yX10_placeOf : MethodName := ⟨RX10, "placeOf", "(II)I"⟩
abbrev cX10_tries : ByteArray := prog_12_method_78_code
def yX10_tries : MethodName := ⟨RX10, "tries", "(IJ)V"⟩
abbrev cX10_weighs : ByteArray := prog_12_method_79_code
def yX10_weighs : MethodName := ⟨RX10, "weighs", "(J)V"⟩
abbrev cX10_isAhead : ByteArray := prog_12_method_80_code
def yX10_isAhead : MethodName := ⟨RX10, "isAhead", "()Z"⟩
abbrev cX10_laysBy : ByteArray := prog_12_method_81_code
def yX10_laysBy : MethodName := ⟨RX10, "laysBy", "(I)V"⟩
abbrev cX10_takesLaid : ByteArray := prog_12_method_82_code
def yX10_takesLaid : MethodName := ⟨RX10, "takesLaid", "()V"⟩
abbrev cX10_whyNotLaw : ByteArray := prog_12_method_83_code
def yX10_whyNotLaw : MethodName := ⟨RX10, "whyNotLaw", "(I)I"⟩
abbrev cX10_lawful : ByteArray := prog_12_method_84_code
def yX10_lawful : MethodName := ⟨RX10, "lawful", "(I)I"⟩
abbrev cX10_address : ByteArray := prog_12_method_85_code
def yX10_address : MethodName := ⟨RX10, "address", "(II)I"⟩
abbrev cX10_ways : ByteArray := prog_12_method_86_code
def yX10_ways : MethodName := ⟨RX10, "ways", "()J"⟩
abbrev cX10_dearest : ByteArray := prog_12_method_87_code
def yX10_dearest : MethodName := ⟨RX10, "dearest", "()I"⟩
abbrev cX10_keeps : ByteArray := prog_12_method_88_code
def yX10_keeps : MethodName := ⟨RX10, "keeps", "()V"⟩
abbrev cX10_goesBack : ByteArray := prog_12_method_89_code
def yX10_goesBack : MethodName := ⟨RX10, "goesBack", "(I)V"⟩
abbrev cX10_put : ByteArray := prog_12_method_90_code
def yX10_put : MethodName := ⟨RX10, "put", "(II)I"⟩
abbrev cX10_swap : ByteArray := prog_12_method_91_code
def yX10_swap : MethodName := ⟨RX10, "swap", "(II)I"⟩
abbrev cX10_lays : ByteArray := prog_12_method_92_code
def yX10_lays : MethodName := ⟨RX10, "lays", "(I)I"⟩
abbrev cX10_undo : ByteArray := prog_12_method_93_code
def yX10_undo : MethodName := ⟨RX10, "undo", "()I"⟩
abbrev cX10_anew : ByteArray := prog_12_method_94_code
def yX10_anew : MethodName := ⟨RX10, "anew", "()I"⟩
def RJ9 : String := "java/lang/Math"
abbrev cJ9_floorMod_7cf53 : ByteArray := prog_13_method_50_code
def yJ9_floorMod_7cf53 : MethodName := ⟨RJ9, "floorMod", "(II)I"⟩
abbrev cJ9_max_7cf53 : ByteArray := prog_13_method_65_code
def yJ9_max_7cf53 : MethodName := ⟨RJ9, "max", "(II)I"⟩
abbrev cJ9_min_7cf53 : ByteArray := prog_13_method_69_code
def yJ9_min_7cf53 : MethodName := ⟨RJ9, "min", "(II)I"⟩
def RJ0 : String := "java/lang/String"
abbrev cJ0_length_8abf5 : ByteArray := prog_14_method_54_code
def yJ0_length_8abf5 : MethodName := ⟨RJ0, "length", "()I"⟩
abbrev cJ0_charAt_5068e : ByteArray := prog_14_method_56_code
def yJ0_charAt_5068e : MethodName := ⟨RJ0, "charAt", "(I)C"⟩
abbrev cJ0_coder_7d493 : ByteArray := prog_14_method_152_code
def yJ0_coder_7d493 : MethodName := ⟨RJ0, "coder", "()B"⟩
abbrev cJ0_isLatin1_aae02 : ByteArray := prog_14_method_154_code
def yJ0_isLatin1_aae02 : MethodName := ⟨RJ0, "isLatin1", "()Z"⟩
abbrev cJ0_checkIndex_df160 : ByteArray := prog_14_method_155_code
def yJ0_checkIndex_df160 : MethodName := ⟨RJ0, "checkIndex", "(II)V"⟩
def RJ1 : String := "java/lang/StringLatin1"
abbrev cJ1_charAt_3b067 : ByteArray := prog_15_method_2_code
def yJ1_charAt_3b067 : MethodName := ⟨RJ1, "charAt", "([BI)C"⟩
def RJ2 : String := "java/lang/StringUTF16"
abbrev cJ2_getChar_3b067 : ByteArray := prog_16_method_5_code
def yJ2_getChar_3b067 : MethodName := ⟨RJ2, "getChar", "([BI)C"⟩
abbrev cJ2_length_9d52b : ByteArray := prog_16_method_6_code
def yJ2_length_9d52b : MethodName := ⟨RJ2, "length", "([B)I"⟩
abbrev cJ2_charAt_3b067 : ByteArray := prog_16_method_83_code
def yJ2_charAt_3b067 : MethodName := ⟨RJ2, "charAt", "([BI)C"⟩
abbrev cJ2_checkIndex_2214a : ByteArray := prog_16_method_91_code
def yJ2_checkIndex_2214a : MethodName := ⟨RJ2, "checkIndex", "(I[B)V"⟩
def RJ10 : String := "java/lang/System"
def RJ3 : String := "jdk/internal/util/Preconditions"
abbrev cJ3_checkIndex_8e157 : ByteArray := prog_18_method_11_code
def yJ3_checkIndex_8e157 : MethodName := ⟨RJ3, "checkIndex", "(IILjava/util/function/BiFunction;)I"⟩
def RL : String := "DrumPlacerLaw"
abbrev cL_law : ByteArray := code
def yL_law : MethodName := ⟨RL, "law", "([I)Z"⟩
abbrev vwCl : List vw_C := [(RX0, TX0, 2), (RX1, TX1, 6), (RX2, TX2, 4), (RX3, TX3, 18), (RX4, TX4, 8), (RX5, TX5, 13), (RX6, TX6, 2), (RX7, TX7, 7), (RX8, TX8, 17), (RX9, TX9, 13), (RX10, TX10, 53)]
end
section
theorem dX0_init_0 : decode cX0_init 0 = .ok (.aload_n 0, 1) := by decide +kernel
theorem dX0_init_1 : decode cX0_init 1 = .ok (.invokespecial 3, 3) := by decide +kernel
theorem dX0_init_4 : decode cX0_init 4 = .ok (.aload_n 0, 1) := by decide +kernel
theorem dX0_init_5 : decode cX0_init 5 = .ok (.sipush 400, 3) := by decide +kernel
theorem dX0_init_8 : decode cX0_init 8 = .ok (.newarray .int, 2) := by decide +kernel
theorem dX0_init_10 : decode cX0_init 10 = .ok (.putfield 9, 3) := by decide +kernel
theorem dX0_init_13 : decode cX0_init 13 = .ok (.aload_n 0, 1) := by decide +kernel
theorem dX0_init_14 : decode cX0_init 14 = .ok (.iconst 0, 1) := by decide +kernel
theorem dX0_init_15 : decode cX0_init 15 = .ok (.putfield 15, 3) := by decide +kernel
theorem dX0_init_18 : decode cX0_init 18 = .ok (.return_, 1) := by decide +kernel
theorem dX0_keep_0 : decode cX0_keep 0 = .ok (.aload_n 0, 1) := by decide +kernel
theorem dX0_keep_1 : decode cX0_keep 1 = .ok (.getfield 15, 3) := by decide +kernel
theorem dX0_keep_4 : decode cX0_keep 4 = .ok (.bipush 20, 2) := by decide +kernel
theorem dX0_keep_6 : decode cX0_keep 6 = .ok (.if_icmp .lt 5, 3) := by decide +kernel
theorem dX0_keep_9 : decode cX0_keep 9 = .ok (.iconst 0, 1) := by decide +kernel
theorem dX0_keep_10 : decode cX0_keep 10 = .ok (.ireturn, 1) := by decide +kernel
theorem dX0_keep_11 : decode cX0_keep 11 = .ok (.aload_n 1, 1) := by decide +kernel
theorem dX0_keep_12 : decode cX0_keep 12 = .ok (.iconst 0, 1) := by decide +kernel
theorem dX0_keep_13 : decode cX0_keep 13 = .ok (.aload_n 0, 1) := by decide +kernel
theorem dX0_keep_14 : decode cX0_keep 14 = .ok (.getfield 9, 3) := by decide +kernel
theorem dX0_keep_17 : decode cX0_keep 17 = .ok (.aload_n 0, 1) := by decide +kernel
theorem dX0_keep_18 : decode cX0_keep 18 = .ok (.getfield 15, 3) := by decide +kernel
theorem dX0_keep_21 : decode cX0_keep 21 = .ok (.bipush 20, 2) := by decide +kernel
theorem dX0_keep_23 : decode cX0_keep 23 = .ok (.imul, 1) := by decide +kernel
theorem dX0_keep_24 : decode cX0_keep 24 = .ok (.bipush 20, 2) := by decide +kernel
theorem dX0_keep_26 : decode cX0_keep 26 = .ok (.invokestatic 19, 3) := by decide +kernel
theorem dX0_keep_29 : decode cX0_keep 29 = .ok (.aload_n 0, 1) := by decide +kernel
theorem dX0_keep_30 : decode cX0_keep 30 = .ok (.dup, 1) := by decide +kernel
theorem dX0_keep_31 : decode cX0_keep 31 = .ok (.getfield 15, 3) := by decide +kernel
theorem dX0_keep_34 : decode cX0_keep 34 = .ok (.iconst 1, 1) := by decide +kernel
theorem dX0_keep_35 : decode cX0_keep 35 = .ok (.iadd, 1) := by decide +kernel
theorem dX0_keep_36 : decode cX0_keep 36 = .ok (.putfield 15, 3) := by decide +kernel
theorem dX0_keep_39 : decode cX0_keep 39 = .ok (.iconst 1, 1) := by decide +kernel
theorem dX0_keep_40 : decode cX0_keep 40 = .ok (.ireturn, 1) := by decide +kernel
theorem dX0_backTo_0 : decode cX0_backTo 0 = .ok (.iload_n 1, 1) := by decide +kernel
theorem dX0_backTo_1 : decode cX0_backTo 1 = .ok (.ifCond .lt 31, 3) := by decide +kernel
theorem dX0_backTo_4 : decode cX0_backTo 4 = .ok (.iload_n 1, 1) := by decide +kernel
theorem dX0_backTo_5 : decode cX0_backTo 5 = .ok (.aload_n 0, 1) := by decide +kernel
theorem dX0_backTo_6 : decode cX0_backTo 6 = .ok (.getfield 15, 3) := by decide +kernel
theorem dX0_backTo_9 : decode cX0_backTo 9 = .ok (.if_icmp .ge 23, 3) := by decide +kernel
theorem dX0_backTo_12 : decode cX0_backTo 12 = .ok (.aload_n 0, 1) := by decide +kernel
theorem dX0_backTo_13 : decode cX0_backTo 13 = .ok (.getfield 9, 3) := by decide +kernel
theorem dX0_backTo_16 : decode cX0_backTo 16 = .ok (.iload_n 1, 1) := by decide +kernel
theorem dX0_backTo_17 : decode cX0_backTo 17 = .ok (.bipush 20, 2) := by decide +kernel
theorem dX0_backTo_19 : decode cX0_backTo 19 = .ok (.imul, 1) := by decide +kernel
theorem dX0_backTo_20 : decode cX0_backTo 20 = .ok (.aload_n 2, 1) := by decide +kernel
theorem dX0_backTo_21 : decode cX0_backTo 21 = .ok (.iconst 0, 1) := by decide +kernel
theorem dX0_backTo_22 : decode cX0_backTo 22 = .ok (.bipush 20, 2) := by decide +kernel
theorem dX0_backTo_24 : decode cX0_backTo 24 = .ok (.invokestatic 19, 3) := by decide +kernel
theorem dX0_backTo_27 : decode cX0_backTo 27 = .ok (.aload_n 0, 1) := by decide +kernel
theorem dX0_backTo_28 : decode cX0_backTo 28 = .ok (.iload_n 1, 1) := by decide +kernel
theorem dX0_backTo_29 : decode cX0_backTo 29 = .ok (.putfield 15, 3) := by decide +kernel
theorem dX0_backTo_32 : decode cX0_backTo 32 = .ok (.return_, 1) := by decide +kernel
theorem dX1_init_0 : decode cX1_init 0 = .ok (.aload_n 0, 1) := by decide +kernel
theorem dX1_init_1 : decode cX1_init 1 = .ok (.invokespecial 3, 3) := by decide +kernel
theorem dX1_init_4 : decode cX1_init 4 = .ok (.aload_n 0, 1) := by decide +kernel
theorem dX1_init_5 : decode cX1_init 5 = .ok (.bipush 20, 2) := by decide +kernel
theorem dX1_init_7 : decode cX1_init 7 = .ok (.newarray .int, 2) := by decide +kernel
theorem dX1_init_9 : decode cX1_init 9 = .ok (.putfield 9, 3) := by decide +kernel
theorem dX1_init_12 : decode cX1_init 12 = .ok (.aload_n 0, 1) := by decide +kernel
theorem dX1_init_13 : decode cX1_init 13 = .ok (.bipush 20, 2) := by decide +kernel
theorem dX1_init_15 : decode cX1_init 15 = .ok (.newarray .int, 2) := by decide +kernel
theorem dX1_init_17 : decode cX1_init 17 = .ok (.putfield 15, 3) := by decide +kernel
theorem dX1_init_20 : decode cX1_init 20 = .ok (.aload_n 0, 1) := by decide +kernel
theorem dX1_init_21 : decode cX1_init 21 = .ok (.sipush 200, 3) := by decide +kernel
theorem dX1_init_24 : decode cX1_init 24 = .ok (.newarray .int, 2) := by decide +kernel
theorem dX1_init_26 : decode cX1_init 26 = .ok (.putfield 18, 3) := by decide +kernel
theorem dX1_init_29 : decode cX1_init 29 = .ok (.aload_n 0, 1) := by decide +kernel
theorem dX1_init_30 : decode cX1_init 30 = .ok (.sipush 200, 3) := by decide +kernel
theorem dX1_init_33 : decode cX1_init 33 = .ok (.newarray .int, 2) := by decide +kernel
theorem dX1_init_35 : decode cX1_init 35 = .ok (.putfield 21, 3) := by decide +kernel
theorem dX1_init_38 : decode cX1_init 38 = .ok (.aload_n 0, 1) := by decide +kernel
theorem dX1_init_39 : decode cX1_init 39 = .ok (.aload_n 1, 1) := by decide +kernel
theorem dX1_init_40 : decode cX1_init 40 = .ok (.putfield 24, 3) := by decide +kernel
theorem dX1_init_43 : decode cX1_init 43 = .ok (.aload_n 0, 1) := by decide +kernel
theorem dX1_init_44 : decode cX1_init 44 = .ok (.aload_n 2, 1) := by decide +kernel
theorem dX1_init_45 : decode cX1_init 45 = .ok (.putfield 28, 3) := by decide +kernel
theorem dX1_init_48 : decode cX1_init 48 = .ok (.return_, 1) := by decide +kernel
theorem dX1_measure_0 : decode cX1_measure 0 = .ok (.aload_n 0, 1) := by decide +kernel
theorem dX1_measure_1 : decode cX1_measure 1 = .ok (.aload_n 1, 1) := by decide +kernel
theorem dX1_measure_2 : decode cX1_measure 2 = .ok (.iload_n 3, 1) := by decide +kernel
theorem dX1_measure_3 : decode cX1_measure 3 = .ok (.invokevirtual 32, 3) := by decide +kernel
theorem dX1_measure_6 : decode cX1_measure 6 = .ok (.aload_n 0, 1) := by decide +kernel
theorem dX1_measure_7 : decode cX1_measure 7 = .ok (.iload_n 2, 1) := by decide +kernel
theorem dX1_measure_8 : decode cX1_measure 8 = .ok (.iconst 1, 1) := by decide +kernel
theorem dX1_measure_9 : decode cX1_measure 9 = .ok (.invokevirtual 36, 3) := by decide +kernel
theorem dX1_measure_12 : decode cX1_measure 12 = .ok (.ireturn, 1) := by decide +kernel
theorem dX1_aim_0 : decode cX1_aim 0 = .ok (.iconst 0, 1) := by decide +kernel
theorem dX1_aim_1 : decode cX1_aim 1 = .ok (.istore_n 3, 1) := by decide +kernel
theorem dX1_aim_2 : decode cX1_aim 2 = .ok (.iload_n 3, 1) := by decide +kernel
theorem dX1_aim_3 : decode cX1_aim 3 = .ok (.aload_n 0, 1) := by decide +kernel
theorem dX1_aim_4 : decode cX1_aim 4 = .ok (.getfield 24, 3) := by decide +kernel
theorem dX1_aim_7 : decode cX1_aim 7 = .ok (.getfield 40, 3) := by decide +kernel
theorem dX1_aim_10 : decode cX1_aim 10 = .ok (.if_icmp .ge 18, 3) := by decide +kernel
theorem dX1_aim_13 : decode cX1_aim 13 = .ok (.aload_n 0, 1) := by decide +kernel
theorem dX1_aim_14 : decode cX1_aim 14 = .ok (.iload_n 3, 1) := by decide +kernel
theorem dX1_aim_15 : decode cX1_aim 15 = .ok (.aload_n 1, 1) := by decide +kernel
theorem dX1_aim_16 : decode cX1_aim 16 = .ok (.iload_n 3, 1) := by decide +kernel
theorem dX1_aim_17 : decode cX1_aim 17 = .ok (.iaload, 1) := by decide +kernel
theorem dX1_aim_18 : decode cX1_aim 18 = .ok (.iload_n 2, 1) := by decide +kernel
theorem dX1_aim_19 : decode cX1_aim 19 = .ok (.invokevirtual 46, 3) := by decide +kernel
theorem dX1_aim_22 : decode cX1_aim 22 = .ok (.iinc 3 1, 3) := by decide +kernel
theorem dX1_aim_25 : decode cX1_aim 25 = .ok (.goto (-23), 3) := by decide +kernel
theorem dX1_aim_28 : decode cX1_aim 28 = .ok (.return_, 1) := by decide +kernel
theorem dX1_aimItem_0 : decode cX1_aimItem 0 = .ok (.aload_n 0, 1) := by decide +kernel
theorem dX1_aimItem_1 : decode cX1_aimItem 1 = .ok (.iload_n 2, 1) := by decide +kernel
theorem dX1_aimItem_2 : decode cX1_aimItem 2 = .ok (.iload_n 3, 1) := by decide +kernel
theorem dX1_aimItem_3 : decode cX1_aimItem 3 = .ok (.invokevirtual 50, 3) := by decide +kernel
theorem dX1_aimItem_6 : decode cX1_aimItem 6 = .ok (.istore 4, 2) := by decide +kernel
theorem dX1_aimItem_8 : decode cX1_aimItem 8 = .ok (.aload_n 0, 1) := by decide +kernel
theorem dX1_aimItem_9 : decode cX1_aimItem 9 = .ok (.getfield 9, 3) := by decide +kernel
theorem dX1_aimItem_12 : decode cX1_aimItem 12 = .ok (.iload_n 1, 1) := by decide +kernel
theorem dX1_aimItem_13 : decode cX1_aimItem 13 = .ok (.iload 4, 2) := by decide +kernel
theorem dX1_aimItem_15 : decode cX1_aimItem 15 = .ok (.iastore, 1) := by decide +kernel
theorem dX1_aimItem_16 : decode cX1_aimItem 16 = .ok (.aload_n 0, 1) := by decide +kernel
theorem dX1_aimItem_17 : decode cX1_aimItem 17 = .ok (.getfield 15, 3) := by decide +kernel
theorem dX1_aimItem_20 : decode cX1_aimItem 20 = .ok (.iload_n 1, 1) := by decide +kernel
theorem dX1_aimItem_21 : decode cX1_aimItem 21 = .ok (.iload 4, 2) := by decide +kernel
theorem dX1_aimItem_23 : decode cX1_aimItem 23 = .ok (.ifCond .le 10, 3) := by decide +kernel
theorem dX1_aimItem_26 : decode cX1_aimItem 26 = .ok (.iload_n 2, 1) := by decide +kernel
theorem dX1_aimItem_27 : decode cX1_aimItem 27 = .ok (.iload 4, 2) := by decide +kernel
theorem dX1_aimItem_29 : decode cX1_aimItem 29 = .ok (.irem, 1) := by decide +kernel
theorem dX1_aimItem_30 : decode cX1_aimItem 30 = .ok (.goto 4, 3) := by decide +kernel
theorem dX1_aimItem_33 : decode cX1_aimItem 33 = .ok (.iconst 0, 1) := by decide +kernel
theorem dX1_aimItem_34 : decode cX1_aimItem 34 = .ok (.iastore, 1) := by decide +kernel
theorem dX1_aimItem_35 : decode cX1_aimItem 35 = .ok (.return_, 1) := by decide +kernel
theorem dX1_walk_0 : decode cX1_walk 0 = .ok (.iconst 0, 1) := by decide +kernel
theorem dX1_walk_1 : decode cX1_walk 1 = .ok (.istore_n 3, 1) := by decide +kernel
theorem dX1_walk_2 : decode cX1_walk 2 = .ok (.iconst 0, 1) := by decide +kernel
theorem dX1_walk_3 : decode cX1_walk 3 = .ok (.istore 4, 2) := by decide +kernel
theorem dX1_walk_5 : decode cX1_walk 5 = .ok (.iconst 0, 1) := by decide +kernel
theorem dX1_walk_6 : decode cX1_walk 6 = .ok (.istore 5, 2) := by decide +kernel
theorem dX1_walk_8 : decode cX1_walk 8 = .ok (.iload 5, 2) := by decide +kernel
theorem dX1_walk_10 : decode cX1_walk 10 = .ok (.aload_n 0, 1) := by decide +kernel
theorem dX1_walk_11 : decode cX1_walk 11 = .ok (.getfield 28, 3) := by decide +kernel
theorem dX1_walk_14 : decode cX1_walk 14 = .ok (.getfield 54, 3) := by decide +kernel
theorem dX1_walk_17 : decode cX1_walk 17 = .ok (.if_icmp .ge 212, 3) := by decide +kernel
theorem dX1_walk_20 : decode cX1_walk 20 = .ok (.aload_n 0, 1) := by decide +kernel
theorem dX1_walk_21 : decode cX1_walk 21 = .ok (.getfield 28, 3) := by decide +kernel
theorem dX1_walk_24 : decode cX1_walk 24 = .ok (.getfield 59, 3) := by decide +kernel
theorem dX1_walk_27 : decode cX1_walk 27 = .ok (.iload 5, 2) := by decide +kernel
theorem dX1_walk_29 : decode cX1_walk 29 = .ok (.iaload, 1) := by decide +kernel
theorem dX1_walk_30 : decode cX1_walk 30 = .ok (.istore 6, 2) := by decide +kernel
theorem dX1_walk_32 : decode cX1_walk 32 = .ok (.aload_n 0, 1) := by decide +kernel
theorem dX1_walk_33 : decode cX1_walk 33 = .ok (.getfield 28, 3) := by decide +kernel
theorem dX1_walk_36 : decode cX1_walk 36 = .ok (.getfield 62, 3) := by decide +kernel
theorem dX1_walk_39 : decode cX1_walk 39 = .ok (.iload 5, 2) := by decide +kernel
theorem dX1_walk_41 : decode cX1_walk 41 = .ok (.iaload, 1) := by decide +kernel
theorem dX1_walk_42 : decode cX1_walk 42 = .ok (.istore 7, 2) := by decide +kernel
theorem dX1_walk_44 : decode cX1_walk 44 = .ok (.iload_n 3, 1) := by decide +kernel
theorem dX1_walk_45 : decode cX1_walk 45 = .ok (.aload_n 0, 1) := by decide +kernel
theorem dX1_walk_46 : decode cX1_walk 46 = .ok (.getfield 9, 3) := by decide +kernel
theorem dX1_walk_49 : decode cX1_walk 49 = .ok (.iload 6, 2) := by decide +kernel
theorem dX1_walk_51 : decode cX1_walk 51 = .ok (.iaload, 1) := by decide +kernel
theorem dX1_walk_52 : decode cX1_walk 52 = .ok (.aload_n 0, 1) := by decide +kernel
theorem dX1_walk_53 : decode cX1_walk 53 = .ok (.getfield 15, 3) := by decide +kernel
theorem dX1_walk_56 : decode cX1_walk 56 = .ok (.iload 6, 2) := by decide +kernel
theorem dX1_walk_58 : decode cX1_walk 58 = .ok (.iaload, 1) := by decide +kernel
theorem dX1_walk_59 : decode cX1_walk 59 = .ok (.invokestatic 65, 3) := by decide +kernel
theorem dX1_walk_62 : decode cX1_walk 62 = .ok (.istore 8, 2) := by decide +kernel
theorem dX1_walk_64 : decode cX1_walk 64 = .ok (.aload_n 0, 1) := by decide +kernel
theorem dX1_walk_65 : decode cX1_walk 65 = .ok (.getfield 21, 3) := by decide +kernel
theorem dX1_walk_68 : decode cX1_walk 68 = .ok (.iload 5, 2) := by decide +kernel
theorem dX1_walk_70 : decode cX1_walk 70 = .ok (.iload 8, 2) := by decide +kernel
theorem dX1_walk_72 : decode cX1_walk 72 = .ok (.iastore, 1) := by decide +kernel
theorem dX1_walk_73 : decode cX1_walk 73 = .ok (.aload_n 0, 1) := by decide +kernel
theorem dX1_walk_74 : decode cX1_walk 74 = .ok (.getfield 18, 3) := by decide +kernel
theorem dX1_walk_77 : decode cX1_walk 77 = .ok (.iload 5, 2) := by decide +kernel
theorem dX1_walk_79 : decode cX1_walk 79 = .ok (.iload_n 3, 1) := by decide +kernel
theorem dX1_walk_80 : decode cX1_walk 80 = .ok (.iload 8, 2) := by decide +kernel
theorem dX1_walk_82 : decode cX1_walk 82 = .ok (.iadd, 1) := by decide +kernel
theorem dX1_walk_83 : decode cX1_walk 83 = .ok (.iastore, 1) := by decide +kernel
theorem dX1_walk_84 : decode cX1_walk 84 = .ok (.iload_n 3, 1) := by decide +kernel
theorem dX1_walk_85 : decode cX1_walk 85 = .ok (.iload 8, 2) := by decide +kernel
theorem dX1_walk_87 : decode cX1_walk 87 = .ok (.iadd, 1) := by decide +kernel
theorem dX1_walk_88 : decode cX1_walk 88 = .ok (.iconst 1, 1) := by decide +kernel
theorem dX1_walk_89 : decode cX1_walk 89 = .ok (.iadd, 1) := by decide +kernel
theorem dX1_walk_90 : decode cX1_walk 90 = .ok (.iload 7, 2) := by decide +kernel
theorem dX1_walk_92 : decode cX1_walk 92 = .ok (.iconst 2, 1) := by decide +kernel
theorem dX1_walk_93 : decode cX1_walk 93 = .ok (.if_icmp .ne 13, 3) := by decide +kernel
theorem dX1_walk_96 : decode cX1_walk 96 = .ok (.aload_n 0, 1) := by decide +kernel
theorem dX1_walk_97 : decode cX1_walk 97 = .ok (.getfield 24, 3) := by decide +kernel
theorem dX1_walk_100 : decode cX1_walk 100 = .ok (.getfield 69, 3) := by decide +kernel
theorem dX1_walk_103 : decode cX1_walk 103 = .ok (.goto 4, 3) := by decide +kernel
theorem dX1_walk_106 : decode cX1_walk 106 = .ok (.iconst 0, 1) := by decide +kernel
theorem dX1_walk_107 : decode cX1_walk 107 = .ok (.iadd, 1) := by decide +kernel
theorem dX1_walk_108 : decode cX1_walk 108 = .ok (.istore 4, 2) := by decide +kernel
theorem dX1_walk_110 : decode cX1_walk 110 = .ok (.iload 4, 2) := by decide +kernel
theorem dX1_walk_112 : decode cX1_walk 112 = .ok (.iload 7, 2) := by decide +kernel
theorem dX1_walk_114 : decode cX1_walk 114 = .ok (.ifCond .ne 7, 3) := by decide +kernel
theorem dX1_walk_117 : decode cX1_walk 117 = .ok (.iload_n 1, 1) := by decide +kernel
theorem dX1_walk_118 : decode cX1_walk 118 = .ok (.goto 4, 3) := by decide +kernel
theorem dX1_walk_121 : decode cX1_walk 121 = .ok (.iconst 0, 1) := by decide +kernel
theorem dX1_walk_122 : decode cX1_walk 122 = .ok (.iadd, 1) := by decide +kernel
theorem dX1_walk_123 : decode cX1_walk 123 = .ok (.istore_n 3, 1) := by decide +kernel
theorem dX1_walk_124 : decode cX1_walk 124 = .ok (.iinc 5 1, 3) := by decide +kernel
theorem dX1_walk_127 : decode cX1_walk 127 = .ok (.iload_n 2, 1) := by decide +kernel
theorem dX1_walk_128 : decode cX1_walk 128 = .ok (.ifCond .eq 7, 3) := by decide +kernel
theorem dX1_walk_131 : decode cX1_walk 131 = .ok (.iconst 0, 1) := by decide +kernel
theorem dX1_walk_132 : decode cX1_walk 132 = .ok (.goto 13, 3) := by decide +kernel
theorem dX1_walk_135 : decode cX1_walk 135 = .ok (.aload_n 0, 1) := by decide +kernel
theorem dX1_walk_136 : decode cX1_walk 136 = .ok (.getfield 28, 3) := by decide +kernel
theorem dX1_walk_139 : decode cX1_walk 139 = .ok (.getfield 72, 3) := by decide +kernel
theorem dX1_walk_142 : decode cX1_walk 142 = .ok (.iload 5, 2) := by decide +kernel
theorem dX1_walk_144 : decode cX1_walk 144 = .ok (.iaload, 1) := by decide +kernel
theorem dX1_walk_145 : decode cX1_walk 145 = .ok (.istore 9, 2) := by decide +kernel
theorem dX1_walk_147 : decode cX1_walk 147 = .ok (.aload_n 0, 1) := by decide +kernel
theorem dX1_walk_148 : decode cX1_walk 148 = .ok (.getfield 28, 3) := by decide +kernel
theorem dX1_walk_151 : decode cX1_walk 151 = .ok (.getfield 75, 3) := by decide +kernel
theorem dX1_walk_154 : decode cX1_walk 154 = .ok (.iload 5, 2) := by decide +kernel
theorem dX1_walk_156 : decode cX1_walk 156 = .ok (.iaload, 1) := by decide +kernel
theorem dX1_walk_157 : decode cX1_walk 157 = .ok (.istore 10, 2) := by decide +kernel
theorem dX1_walk_159 : decode cX1_walk 159 = .ok (.iload 9, 2) := by decide +kernel
theorem dX1_walk_161 : decode cX1_walk 161 = .ok (.ifCond .le 65, 3) := by decide +kernel
theorem dX1_walk_164 : decode cX1_walk 164 = .ok (.iload 10, 2) := by decide +kernel
theorem dX1_walk_166 : decode cX1_walk 166 = .ok (.iload 5, 2) := by decide +kernel
theorem dX1_walk_168 : decode cX1_walk 168 = .ok (.if_icmp .gt 58, 3) := by decide +kernel
theorem dX1_walk_171 : decode cX1_walk 171 = .ok (.aload_n 0, 1) := by decide +kernel
theorem dX1_walk_172 : decode cX1_walk 172 = .ok (.getfield 18, 3) := by decide +kernel
theorem dX1_walk_175 : decode cX1_walk 175 = .ok (.iload 5, 2) := by decide +kernel
theorem dX1_walk_177 : decode cX1_walk 177 = .ok (.iload 10, 2) := by decide +kernel
theorem dX1_walk_179 : decode cX1_walk 179 = .ok (.isub, 1) := by decide +kernel
theorem dX1_walk_180 : decode cX1_walk 180 = .ok (.iaload, 1) := by decide +kernel
theorem dX1_walk_181 : decode cX1_walk 181 = .ok (.aload_n 0, 1) := by decide +kernel
theorem dX1_walk_182 : decode cX1_walk 182 = .ok (.getfield 21, 3) := by decide +kernel
theorem dX1_walk_185 : decode cX1_walk 185 = .ok (.iload 5, 2) := by decide +kernel
theorem dX1_walk_187 : decode cX1_walk 187 = .ok (.iload 10, 2) := by decide +kernel
theorem dX1_walk_189 : decode cX1_walk 189 = .ok (.isub, 1) := by decide +kernel
theorem dX1_walk_190 : decode cX1_walk 190 = .ok (.iaload, 1) := by decide +kernel
theorem dX1_walk_191 : decode cX1_walk 191 = .ok (.isub, 1) := by decide +kernel
theorem dX1_walk_192 : decode cX1_walk 192 = .ok (.istore 11, 2) := by decide +kernel
theorem dX1_walk_194 : decode cX1_walk 194 = .ok (.iload 4, 2) := by decide +kernel
theorem dX1_walk_196 : decode cX1_walk 196 = .ok (.iload 9, 2) := by decide +kernel
theorem dX1_walk_198 : decode cX1_walk 198 = .ok (.iload_n 3, 1) := by decide +kernel
theorem dX1_walk_199 : decode cX1_walk 199 = .ok (.iload 11, 2) := by decide +kernel
theorem dX1_walk_201 : decode cX1_walk 201 = .ok (.isub, 1) := by decide +kernel
theorem dX1_walk_202 : decode cX1_walk 202 = .ok (.imul, 1) := by decide +kernel
theorem dX1_walk_203 : decode cX1_walk 203 = .ok (.iadd, 1) := by decide +kernel
theorem dX1_walk_204 : decode cX1_walk 204 = .ok (.istore 4, 2) := by decide +kernel
theorem dX1_walk_206 : decode cX1_walk 206 = .ok (.iload_n 3, 1) := by decide +kernel
theorem dX1_walk_207 : decode cX1_walk 207 = .ok (.iload 9, 2) := by decide +kernel
theorem dX1_walk_209 : decode cX1_walk 209 = .ok (.iload_n 3, 1) := by decide +kernel
theorem dX1_walk_210 : decode cX1_walk 210 = .ok (.iload 11, 2) := by decide +kernel
theorem dX1_walk_212 : decode cX1_walk 212 = .ok (.isub, 1) := by decide +kernel
theorem dX1_walk_213 : decode cX1_walk 213 = .ok (.imul, 1) := by decide +kernel
theorem dX1_walk_214 : decode cX1_walk 214 = .ok (.iadd, 1) := by decide +kernel
theorem dX1_walk_215 : decode cX1_walk 215 = .ok (.istore_n 3, 1) := by decide +kernel
theorem dX1_walk_216 : decode cX1_walk 216 = .ok (.iload 5, 2) := by decide +kernel
theorem dX1_walk_218 : decode cX1_walk 218 = .ok (.iload 9, 2) := by decide +kernel
theorem dX1_walk_220 : decode cX1_walk 220 = .ok (.iload 10, 2) := by decide +kernel
theorem dX1_walk_222 : decode cX1_walk 222 = .ok (.imul, 1) := by decide +kernel
theorem dX1_walk_223 : decode cX1_walk 223 = .ok (.iadd, 1) := by decide +kernel
theorem dX1_walk_224 : decode cX1_walk 224 = .ok (.istore 5, 2) := by decide +kernel
theorem dX1_walk_226 : decode cX1_walk 226 = .ok (.goto (-218), 3) := by decide +kernel
theorem dX1_walk_229 : decode cX1_walk 229 = .ok (.iload 4, 2) := by decide +kernel
theorem dX1_walk_231 : decode cX1_walk 231 = .ok (.ireturn, 1) := by decide +kernel
theorem dX1_turnAt_0 : decode cX1_turnAt 0 = .ok (.iload_n 1, 1) := by decide +kernel
theorem dX1_turnAt_1 : decode cX1_turnAt 1 = .ok (.aload_n 0, 1) := by decide +kernel
theorem dX1_turnAt_2 : decode cX1_turnAt 2 = .ok (.getfield 24, 3) := by decide +kernel
theorem dX1_turnAt_5 : decode cX1_turnAt 5 = .ok (.getfield 78, 3) := by decide +kernel
theorem dX1_turnAt_8 : decode cX1_turnAt 8 = .ok (.iconst 1, 1) := by decide +kernel
theorem dX1_turnAt_9 : decode cX1_turnAt 9 = .ok (.isub, 1) := by decide +kernel
theorem dX1_turnAt_10 : decode cX1_turnAt 10 = .ok (.aload_n 0, 1) := by decide +kernel
theorem dX1_turnAt_11 : decode cX1_turnAt 11 = .ok (.getfield 24, 3) := by decide +kernel
theorem dX1_turnAt_14 : decode cX1_turnAt 14 = .ok (.getfield 81, 3) := by decide +kernel
theorem dX1_turnAt_17 : decode cX1_turnAt 17 = .ok (.imul, 1) := by decide +kernel
theorem dX1_turnAt_18 : decode cX1_turnAt 18 = .ok (.if_icmp .lt 7, 3) := by decide +kernel
theorem dX1_turnAt_21 : decode cX1_turnAt 21 = .ok (.iconst 1, 1) := by decide +kernel
theorem dX1_turnAt_22 : decode cX1_turnAt 22 = .ok (.goto 4, 3) := by decide +kernel
theorem dX1_turnAt_25 : decode cX1_turnAt 25 = .ok (.iconst 0, 1) := by decide +kernel
theorem dX1_turnAt_26 : decode cX1_turnAt 26 = .ok (.istore_n 3, 1) := by decide +kernel
theorem dX1_turnAt_27 : decode cX1_turnAt 27 = .ok (.iload_n 3, 1) := by decide +kernel
theorem dX1_turnAt_28 : decode cX1_turnAt 28 = .ok (.ifCond .eq 11, 3) := by decide +kernel
theorem dX1_turnAt_31 : decode cX1_turnAt 31 = .ok (.iload_n 2, 1) := by decide +kernel
theorem dX1_turnAt_32 : decode cX1_turnAt 32 = .ok (.ifCond .le 7, 3) := by decide +kernel
theorem dX1_turnAt_35 : decode cX1_turnAt 35 = .ok (.iload_n 2, 1) := by decide +kernel
theorem dX1_turnAt_36 : decode cX1_turnAt 36 = .ok (.goto 10, 3) := by decide +kernel
theorem dX1_turnAt_39 : decode cX1_turnAt 39 = .ok (.aload_n 0, 1) := by decide +kernel
theorem dX1_turnAt_40 : decode cX1_turnAt 40 = .ok (.getfield 24, 3) := by decide +kernel
theorem dX1_turnAt_43 : decode cX1_turnAt 43 = .ok (.getfield 81, 3) := by decide +kernel
theorem dX1_turnAt_46 : decode cX1_turnAt 46 = .ok (.ireturn, 1) := by decide +kernel
theorem dX1_lostAt_0 : decode cX1_lostAt 0 = .ok (.aload_n 0, 1) := by decide +kernel
theorem dX1_lostAt_1 : decode cX1_lostAt 1 = .ok (.iload_n 2, 1) := by decide +kernel
theorem dX1_lostAt_2 : decode cX1_lostAt 2 = .ok (.aload_n 0, 1) := by decide +kernel
theorem dX1_lostAt_3 : decode cX1_lostAt 3 = .ok (.getfield 24, 3) := by decide +kernel
theorem dX1_lostAt_6 : decode cX1_lostAt 6 = .ok (.getfield 84, 3) := by decide +kernel
theorem dX1_lostAt_9 : decode cX1_lostAt 9 = .ok (.invokevirtual 50, 3) := by decide +kernel
theorem dX1_lostAt_12 : decode cX1_lostAt 12 = .ok (.istore_n 3, 1) := by decide +kernel
theorem dX1_lostAt_13 : decode cX1_lostAt 13 = .ok (.iload_n 3, 1) := by decide +kernel
theorem dX1_lostAt_14 : decode cX1_lostAt 14 = .ok (.ifCond .le 14, 3) := by decide +kernel
theorem dX1_lostAt_17 : decode cX1_lostAt 17 = .ok (.iload_n 1, 1) := by decide +kernel
theorem dX1_lostAt_18 : decode cX1_lostAt 18 = .ok (.iload_n 3, 1) := by decide +kernel
theorem dX1_lostAt_19 : decode cX1_lostAt 19 = .ok (.iload_n 2, 1) := by decide +kernel
theorem dX1_lostAt_20 : decode cX1_lostAt 20 = .ok (.iload_n 3, 1) := by decide +kernel
theorem dX1_lostAt_21 : decode cX1_lostAt 21 = .ok (.irem, 1) := by decide +kernel
theorem dX1_lostAt_22 : decode cX1_lostAt 22 = .ok (.invokestatic 65, 3) := by decide +kernel
theorem dX1_lostAt_25 : decode cX1_lostAt 25 = .ok (.goto 4, 3) := by decide +kernel
theorem dX1_lostAt_28 : decode cX1_lostAt 28 = .ok (.iconst 0, 1) := by decide +kernel
theorem dX1_lostAt_29 : decode cX1_lostAt 29 = .ok (.ireturn, 1) := by decide +kernel
theorem dX1_lostFrom_0 : decode cX1_lostFrom 0 = .ok (.iload_n 1, 1) := by decide +kernel
theorem dX1_lostFrom_1 : decode cX1_lostFrom 1 = .ok (.iconst 1, 1) := by decide +kernel
theorem dX1_lostFrom_2 : decode cX1_lostFrom 2 = .ok (.if_icmp .ge 5, 3) := by decide +kernel
theorem dX1_lostFrom_5 : decode cX1_lostFrom 5 = .ok (.iconst 0, 1) := by decide +kernel
theorem dX1_lostFrom_6 : decode cX1_lostFrom 6 = .ok (.ireturn, 1) := by decide +kernel
theorem dX1_lostFrom_7 : decode cX1_lostFrom 7 = .ok (.iload_n 2, 1) := by decide +kernel
theorem dX1_lostFrom_8 : decode cX1_lostFrom 8 = .ok (.iload_n 0, 1) := by decide +kernel
theorem dX1_lostFrom_9 : decode cX1_lostFrom 9 = .ok (.iload_n 1, 1) := by decide +kernel
theorem dX1_lostFrom_10 : decode cX1_lostFrom 10 = .ok (.irem, 1) := by decide +kernel
theorem dX1_lostFrom_11 : decode cX1_lostFrom 11 = .ok (.isub, 1) := by decide +kernel
theorem dX1_lostFrom_12 : decode cX1_lostFrom 12 = .ok (.istore_n 3, 1) := by decide +kernel
theorem dX1_lostFrom_13 : decode cX1_lostFrom 13 = .ok (.iload_n 3, 1) := by decide +kernel
theorem dX1_lostFrom_14 : decode cX1_lostFrom 14 = .ok (.ifCond .ge 9, 3) := by decide +kernel
theorem dX1_lostFrom_17 : decode cX1_lostFrom 17 = .ok (.iload_n 3, 1) := by decide +kernel
theorem dX1_lostFrom_18 : decode cX1_lostFrom 18 = .ok (.iload_n 1, 1) := by decide +kernel
theorem dX1_lostFrom_19 : decode cX1_lostFrom 19 = .ok (.iadd, 1) := by decide +kernel
theorem dX1_lostFrom_20 : decode cX1_lostFrom 20 = .ok (.goto 4, 3) := by decide +kernel
theorem dX1_lostFrom_23 : decode cX1_lostFrom 23 = .ok (.iload_n 3, 1) := by decide +kernel
theorem dX1_lostFrom_24 : decode cX1_lostFrom 24 = .ok (.ireturn, 1) := by decide +kernel
theorem dX1_whenOf_0 : decode cX1_whenOf 0 = .ok (.iload_n 1, 1) := by decide +kernel
theorem dX1_whenOf_1 : decode cX1_whenOf 1 = .ok (.ifCond .lt 23, 3) := by decide +kernel
theorem dX1_whenOf_4 : decode cX1_whenOf 4 = .ok (.iload_n 1, 1) := by decide +kernel
theorem dX1_whenOf_5 : decode cX1_whenOf 5 = .ok (.aload_n 0, 1) := by decide +kernel
theorem dX1_whenOf_6 : decode cX1_whenOf 6 = .ok (.getfield 28, 3) := by decide +kernel
theorem dX1_whenOf_9 : decode cX1_whenOf 9 = .ok (.getfield 54, 3) := by decide +kernel
theorem dX1_whenOf_12 : decode cX1_whenOf 12 = .ok (.if_icmp .ge 12, 3) := by decide +kernel
theorem dX1_whenOf_15 : decode cX1_whenOf 15 = .ok (.aload_n 0, 1) := by decide +kernel
theorem dX1_whenOf_16 : decode cX1_whenOf 16 = .ok (.getfield 18, 3) := by decide +kernel
theorem dX1_whenOf_19 : decode cX1_whenOf 19 = .ok (.iload_n 1, 1) := by decide +kernel
theorem dX1_whenOf_20 : decode cX1_whenOf 20 = .ok (.iaload, 1) := by decide +kernel
theorem dX1_whenOf_21 : decode cX1_whenOf 21 = .ok (.goto 4, 3) := by decide +kernel
theorem dX1_whenOf_24 : decode cX1_whenOf 24 = .ok (.iconst (-1), 1) := by decide +kernel
theorem dX1_whenOf_25 : decode cX1_whenOf 25 = .ok (.ireturn, 1) := by decide +kernel
theorem dX1_lostAtFirst_0 : decode cX1_lostAtFirst 0 = .ok (.aload_n 0, 1) := by decide +kernel
theorem dX1_lostAtFirst_1 : decode cX1_lostAtFirst 1 = .ok (.getfield 28, 3) := by decide +kernel
theorem dX1_lostAtFirst_4 : decode cX1_lostAtFirst 4 = .ok (.getfield 54, 3) := by decide +kernel
theorem dX1_lostAtFirst_7 : decode cX1_lostAtFirst 7 = .ok (.ifCond .le 12, 3) := by decide +kernel
theorem dX1_lostAtFirst_10 : decode cX1_lostAtFirst 10 = .ok (.aload_n 0, 1) := by decide +kernel
theorem dX1_lostAtFirst_11 : decode cX1_lostAtFirst 11 = .ok (.getfield 21, 3) := by decide +kernel
theorem dX1_lostAtFirst_14 : decode cX1_lostAtFirst 14 = .ok (.iconst 0, 1) := by decide +kernel
theorem dX1_lostAtFirst_15 : decode cX1_lostAtFirst 15 = .ok (.iaload, 1) := by decide +kernel
theorem dX1_lostAtFirst_16 : decode cX1_lostAtFirst 16 = .ok (.goto 4, 3) := by decide +kernel
theorem dX1_lostAtFirst_19 : decode cX1_lostAtFirst 19 = .ok (.iconst 0, 1) := by decide +kernel
theorem dX1_lostAtFirst_20 : decode cX1_lostAtFirst 20 = .ok (.ireturn, 1) := by decide +kernel
theorem dX1_lostBehindFirst_0 : decode cX1_lostBehindFirst 0 = .ok (.iconst 0, 1) := by decide +kernel
theorem dX1_lostBehindFirst_1 : decode cX1_lostBehindFirst 1 = .ok (.istore_n 1, 1) := by decide +kernel
theorem dX1_lostBehindFirst_2 : decode cX1_lostBehindFirst 2 = .ok (.iconst 1, 1) := by decide +kernel
theorem dX1_lostBehindFirst_3 : decode cX1_lostBehindFirst 3 = .ok (.istore_n 2, 1) := by decide +kernel
theorem dX1_lostBehindFirst_4 : decode cX1_lostBehindFirst 4 = .ok (.iload_n 2, 1) := by decide +kernel
theorem dX1_lostBehindFirst_5 : decode cX1_lostBehindFirst 5 = .ok (.aload_n 0, 1) := by decide +kernel
theorem dX1_lostBehindFirst_6 : decode cX1_lostBehindFirst 6 = .ok (.getfield 28, 3) := by decide +kernel
theorem dX1_lostBehindFirst_9 : decode cX1_lostBehindFirst 9 = .ok (.getfield 54, 3) := by decide +kernel
theorem dX1_lostBehindFirst_12 : decode cX1_lostBehindFirst 12 = .ok (.if_icmp .ge 18, 3) := by decide +kernel
theorem dX1_lostBehindFirst_15 : decode cX1_lostBehindFirst 15 = .ok (.iload_n 1, 1) := by decide +kernel
theorem dX1_lostBehindFirst_16 : decode cX1_lostBehindFirst 16 = .ok (.aload_n 0, 1) := by decide +kernel
theorem dX1_lostBehindFirst_17 : decode cX1_lostBehindFirst 17 = .ok (.getfield 21, 3) := by decide +kernel
theorem dX1_lostBehindFirst_20 : decode cX1_lostBehindFirst 20 = .ok (.iload_n 2, 1) := by decide +kernel
theorem dX1_lostBehindFirst_21 : decode cX1_lostBehindFirst 21 = .ok (.iaload, 1) := by decide +kernel
theorem dX1_lostBehindFirst_22 : decode cX1_lostBehindFirst 22 = .ok (.iadd, 1) := by decide +kernel
theorem dX1_lostBehindFirst_23 : decode cX1_lostBehindFirst 23 = .ok (.istore_n 1, 1) := by decide +kernel
theorem dX1_lostBehindFirst_24 : decode cX1_lostBehindFirst 24 = .ok (.iinc 2 1, 3) := by decide +kernel
theorem dX1_lostBehindFirst_27 : decode cX1_lostBehindFirst 27 = .ok (.goto (-23), 3) := by decide +kernel
theorem dX1_lostBehindFirst_30 : decode cX1_lostBehindFirst 30 = .ok (.iload_n 1, 1) := by decide +kernel
theorem dX1_lostBehindFirst_31 : decode cX1_lostBehindFirst 31 = .ok (.ireturn, 1) := by decide +kernel
theorem dX1_lostOn_0 : decode cX1_lostOn 0 = .ok (.iconst 0, 1) := by decide +kernel
theorem dX1_lostOn_1 : decode cX1_lostOn 1 = .ok (.istore_n 2, 1) := by decide +kernel
theorem dX1_lostOn_2 : decode cX1_lostOn 2 = .ok (.iconst 0, 1) := by decide +kernel
theorem dX1_lostOn_3 : decode cX1_lostOn 3 = .ok (.istore_n 3, 1) := by decide +kernel
theorem dX1_lostOn_4 : decode cX1_lostOn 4 = .ok (.iload_n 3, 1) := by decide +kernel
theorem dX1_lostOn_5 : decode cX1_lostOn 5 = .ok (.aload_n 0, 1) := by decide +kernel
theorem dX1_lostOn_6 : decode cX1_lostOn 6 = .ok (.getfield 28, 3) := by decide +kernel
theorem dX1_lostOn_9 : decode cX1_lostOn 9 = .ok (.getfield 54, 3) := by decide +kernel
theorem dX1_lostOn_12 : decode cX1_lostOn 12 = .ok (.if_icmp .ge 31, 3) := by decide +kernel
theorem dX1_lostOn_15 : decode cX1_lostOn 15 = .ok (.aload_n 0, 1) := by decide +kernel
theorem dX1_lostOn_16 : decode cX1_lostOn 16 = .ok (.getfield 28, 3) := by decide +kernel
theorem dX1_lostOn_19 : decode cX1_lostOn 19 = .ok (.getfield 59, 3) := by decide +kernel
theorem dX1_lostOn_22 : decode cX1_lostOn 22 = .ok (.iload_n 3, 1) := by decide +kernel
theorem dX1_lostOn_23 : decode cX1_lostOn 23 = .ok (.iaload, 1) := by decide +kernel
theorem dX1_lostOn_24 : decode cX1_lostOn 24 = .ok (.iload_n 1, 1) := by decide +kernel
theorem dX1_lostOn_25 : decode cX1_lostOn 25 = .ok (.if_icmp .ne 12, 3) := by decide +kernel
theorem dX1_lostOn_28 : decode cX1_lostOn 28 = .ok (.iload_n 2, 1) := by decide +kernel
theorem dX1_lostOn_29 : decode cX1_lostOn 29 = .ok (.aload_n 0, 1) := by decide +kernel
theorem dX1_lostOn_30 : decode cX1_lostOn 30 = .ok (.getfield 21, 3) := by decide +kernel
theorem dX1_lostOn_33 : decode cX1_lostOn 33 = .ok (.iload_n 3, 1) := by decide +kernel
theorem dX1_lostOn_34 : decode cX1_lostOn 34 = .ok (.iaload, 1) := by decide +kernel
theorem dX1_lostOn_35 : decode cX1_lostOn 35 = .ok (.iadd, 1) := by decide +kernel
theorem dX1_lostOn_36 : decode cX1_lostOn 36 = .ok (.istore_n 2, 1) := by decide +kernel
theorem dX1_lostOn_37 : decode cX1_lostOn 37 = .ok (.iinc 3 1, 3) := by decide +kernel
theorem dX1_lostOn_40 : decode cX1_lostOn 40 = .ok (.goto (-36), 3) := by decide +kernel
theorem dX1_lostOn_43 : decode cX1_lostOn 43 = .ok (.iload_n 2, 1) := by decide +kernel
theorem dX1_lostOn_44 : decode cX1_lostOn 44 = .ok (.ireturn, 1) := by decide +kernel
theorem dX2_init_0 : decode cX2_init 0 = .ok (.aload_n 0, 1) := by decide +kernel
theorem dX2_init_1 : decode cX2_init 1 = .ok (.invokespecial 3, 3) := by decide +kernel
theorem dX2_init_4 : decode cX2_init 4 = .ok (.aload_n 0, 1) := by decide +kernel
theorem dX2_init_5 : decode cX2_init 5 = .ok (.bipush 48, 2) := by decide +kernel
theorem dX2_init_7 : decode cX2_init 7 = .ok (.newarray .boolean, 2) := by decide +kernel
theorem dX2_init_9 : decode cX2_init 9 = .ok (.putfield 9, 3) := by decide +kernel
theorem dX2_init_12 : decode cX2_init 12 = .ok (.aload_n 0, 1) := by decide +kernel
theorem dX2_init_13 : decode cX2_init 13 = .ok (.aload_n 1, 1) := by decide +kernel
theorem dX2_init_14 : decode cX2_init 14 = .ok (.putfield 15, 3) := by decide +kernel
theorem dX2_init_17 : decode cX2_init 17 = .ok (.aload_n 0, 1) := by decide +kernel
theorem dX2_init_18 : decode cX2_init 18 = .ok (.aload_n 2, 1) := by decide +kernel
theorem dX2_init_19 : decode cX2_init 19 = .ok (.putfield 19, 3) := by decide +kernel
theorem dX2_init_22 : decode cX2_init 22 = .ok (.aload_n 0, 1) := by decide +kernel
theorem dX2_init_23 : decode cX2_init 23 = .ok (.aload_n 3, 1) := by decide +kernel
theorem dX2_init_24 : decode cX2_init 24 = .ok (.putfield 23, 3) := by decide +kernel
theorem dX2_init_27 : decode cX2_init 27 = .ok (.return_, 1) := by decide +kernel
theorem dX2_layInOrder_0 : decode cX2_layInOrder 0 = .ok (.aload_n 0, 1) := by decide +kernel
theorem dX2_layInOrder_1 : decode cX2_layInOrder 1 = .ok (.aload_n 1, 1) := by decide +kernel
theorem dX2_layInOrder_2 : decode cX2_layInOrder 2 = .ok (.invokevirtual 27, 3) := by decide +kernel
theorem dX2_layInOrder_5 : decode cX2_layInOrder 5 = .ok (.aload_n 0, 1) := by decide +kernel
theorem dX2_layInOrder_6 : decode cX2_layInOrder 6 = .ok (.aload_n 1, 1) := by decide +kernel
theorem dX2_layInOrder_7 : decode cX2_layInOrder 7 = .ok (.invokevirtual 31, 3) := by decide +kernel
theorem dX2_layInOrder_10 : decode cX2_layInOrder 10 = .ok (.return_, 1) := by decide +kernel
theorem dX2_laySoonest_0 : decode cX2_laySoonest 0 = .ok (.aload_n 0, 1) := by decide +kernel
theorem dX2_laySoonest_1 : decode cX2_laySoonest 1 = .ok (.aload_n 1, 1) := by decide +kernel
theorem dX2_laySoonest_2 : decode cX2_laySoonest 2 = .ok (.invokevirtual 27, 3) := by decide +kernel
theorem dX2_laySoonest_5 : decode cX2_laySoonest 5 = .ok (.iconst 0, 1) := by decide +kernel
theorem dX2_laySoonest_6 : decode cX2_laySoonest 6 = .ok (.istore_n 2, 1) := by decide +kernel
theorem dX2_laySoonest_7 : decode cX2_laySoonest 7 = .ok (.iconst 0, 1) := by decide +kernel
theorem dX2_laySoonest_8 : decode cX2_laySoonest 8 = .ok (.istore_n 3, 1) := by decide +kernel
theorem dX2_laySoonest_9 : decode cX2_laySoonest 9 = .ok (.iload_n 3, 1) := by decide +kernel
theorem dX2_laySoonest_10 : decode cX2_laySoonest 10 = .ok (.aload_n 0, 1) := by decide +kernel
theorem dX2_laySoonest_11 : decode cX2_laySoonest 11 = .ok (.getfield 19, 3) := by decide +kernel
theorem dX2_laySoonest_14 : decode cX2_laySoonest 14 = .ok (.getfield 34, 3) := by decide +kernel
theorem dX2_laySoonest_17 : decode cX2_laySoonest 17 = .ok (.if_icmp .ge 107, 3) := by decide +kernel
theorem dX2_laySoonest_20 : decode cX2_laySoonest 20 = .ok (.aload_n 0, 1) := by decide +kernel
theorem dX2_laySoonest_21 : decode cX2_laySoonest 21 = .ok (.getfield 19, 3) := by decide +kernel
theorem dX2_laySoonest_24 : decode cX2_laySoonest 24 = .ok (.getfield 40, 3) := by decide +kernel
theorem dX2_laySoonest_27 : decode cX2_laySoonest 27 = .ok (.iload_n 3, 1) := by decide +kernel
theorem dX2_laySoonest_28 : decode cX2_laySoonest 28 = .ok (.iaload, 1) := by decide +kernel
theorem dX2_laySoonest_29 : decode cX2_laySoonest 29 = .ok (.istore 4, 2) := by decide +kernel
theorem dX2_laySoonest_31 : decode cX2_laySoonest 31 = .ok (.aload_n 1, 1) := by decide +kernel
theorem dX2_laySoonest_32 : decode cX2_laySoonest 32 = .ok (.iload 4, 2) := by decide +kernel
theorem dX2_laySoonest_34 : decode cX2_laySoonest 34 = .ok (.iaload, 1) := by decide +kernel
theorem dX2_laySoonest_35 : decode cX2_laySoonest 35 = .ok (.iconst (-1), 1) := by decide +kernel
theorem dX2_laySoonest_36 : decode cX2_laySoonest 36 = .ok (.if_icmp .ne 15, 3) := by decide +kernel
theorem dX2_laySoonest_39 : decode cX2_laySoonest 39 = .ok (.aload_n 0, 1) := by decide +kernel
theorem dX2_laySoonest_40 : decode cX2_laySoonest 40 = .ok (.aload_n 1, 1) := by decide +kernel
theorem dX2_laySoonest_41 : decode cX2_laySoonest 41 = .ok (.iload 4, 2) := by decide +kernel
theorem dX2_laySoonest_43 : decode cX2_laySoonest 43 = .ok (.aload_n 0, 1) := by decide +kernel
theorem dX2_laySoonest_44 : decode cX2_laySoonest 44 = .ok (.iload_n 2, 1) := by decide +kernel
theorem dX2_laySoonest_45 : decode cX2_laySoonest 45 = .ok (.invokevirtual 44, 3) := by decide +kernel
theorem dX2_laySoonest_48 : decode cX2_laySoonest 48 = .ok (.invokevirtual 48, 3) := by decide +kernel
theorem dX2_laySoonest_51 : decode cX2_laySoonest 51 = .ok (.aload_n 0, 1) := by decide +kernel
theorem dX2_laySoonest_52 : decode cX2_laySoonest 52 = .ok (.getfield 19, 3) := by decide +kernel
theorem dX2_laySoonest_55 : decode cX2_laySoonest 55 = .ok (.getfield 52, 3) := by decide +kernel
theorem dX2_laySoonest_58 : decode cX2_laySoonest 58 = .ok (.iload_n 3, 1) := by decide +kernel
theorem dX2_laySoonest_59 : decode cX2_laySoonest 59 = .ok (.iaload, 1) := by decide +kernel
theorem dX2_laySoonest_60 : decode cX2_laySoonest 60 = .ok (.istore 5, 2) := by decide +kernel
theorem dX2_laySoonest_62 : decode cX2_laySoonest 62 = .ok (.iload_n 2, 1) := by decide +kernel
theorem dX2_laySoonest_63 : decode cX2_laySoonest 63 = .ok (.aload_n 0, 1) := by decide +kernel
theorem dX2_laySoonest_64 : decode cX2_laySoonest 64 = .ok (.getfield 23, 3) := by decide +kernel
theorem dX2_laySoonest_67 : decode cX2_laySoonest 67 = .ok (.iload_n 2, 1) := by decide +kernel
theorem dX2_laySoonest_68 : decode cX2_laySoonest 68 = .ok (.aload_n 1, 1) := by decide +kernel
theorem dX2_laySoonest_69 : decode cX2_laySoonest 69 = .ok (.iload 4, 2) := by decide +kernel
theorem dX2_laySoonest_71 : decode cX2_laySoonest 71 = .ok (.iaload, 1) := by decide +kernel
theorem dX2_laySoonest_72 : decode cX2_laySoonest 72 = .ok (.invokevirtual 55, 3) := by decide +kernel
theorem dX2_laySoonest_75 : decode cX2_laySoonest 75 = .ok (.iconst 1, 1) := by decide +kernel
theorem dX2_laySoonest_76 : decode cX2_laySoonest 76 = .ok (.iadd, 1) := by decide +kernel
theorem dX2_laySoonest_77 : decode cX2_laySoonest 77 = .ok (.iadd, 1) := by decide +kernel
theorem dX2_laySoonest_78 : decode cX2_laySoonest 78 = .ok (.istore_n 2, 1) := by decide +kernel
theorem dX2_laySoonest_79 : decode cX2_laySoonest 79 = .ok (.iload_n 2, 1) := by decide +kernel
theorem dX2_laySoonest_80 : decode cX2_laySoonest 80 = .ok (.iload 5, 2) := by decide +kernel
theorem dX2_laySoonest_82 : decode cX2_laySoonest 82 = .ok (.ifCond .ne 13, 3) := by decide +kernel
theorem dX2_laySoonest_85 : decode cX2_laySoonest 85 = .ok (.aload_n 0, 1) := by decide +kernel
theorem dX2_laySoonest_86 : decode cX2_laySoonest 86 = .ok (.getfield 15, 3) := by decide +kernel
theorem dX2_laySoonest_89 : decode cX2_laySoonest 89 = .ok (.getfield 61, 3) := by decide +kernel
theorem dX2_laySoonest_92 : decode cX2_laySoonest 92 = .ok (.goto 4, 3) := by decide +kernel
theorem dX2_laySoonest_95 : decode cX2_laySoonest 95 = .ok (.iconst 0, 1) := by decide +kernel
theorem dX2_laySoonest_96 : decode cX2_laySoonest 96 = .ok (.iadd, 1) := by decide +kernel
theorem dX2_laySoonest_97 : decode cX2_laySoonest 97 = .ok (.istore_n 2, 1) := by decide +kernel
theorem dX2_laySoonest_98 : decode cX2_laySoonest 98 = .ok (.iload_n 2, 1) := by decide +kernel
theorem dX2_laySoonest_99 : decode cX2_laySoonest 99 = .ok (.iload 5, 2) := by decide +kernel
theorem dX2_laySoonest_101 : decode cX2_laySoonest 101 = .ok (.iconst 2, 1) := by decide +kernel
theorem dX2_laySoonest_102 : decode cX2_laySoonest 102 = .ok (.if_icmp .ne 13, 3) := by decide +kernel
theorem dX2_laySoonest_105 : decode cX2_laySoonest 105 = .ok (.aload_n 0, 1) := by decide +kernel
theorem dX2_laySoonest_106 : decode cX2_laySoonest 106 = .ok (.getfield 15, 3) := by decide +kernel
theorem dX2_laySoonest_109 : decode cX2_laySoonest 109 = .ok (.getfield 66, 3) := by decide +kernel
theorem dX2_laySoonest_112 : decode cX2_laySoonest 112 = .ok (.goto 4, 3) := by decide +kernel
theorem dX2_laySoonest_115 : decode cX2_laySoonest 115 = .ok (.iconst 0, 1) := by decide +kernel
theorem dX2_laySoonest_116 : decode cX2_laySoonest 116 = .ok (.iadd, 1) := by decide +kernel
theorem dX2_laySoonest_117 : decode cX2_laySoonest 117 = .ok (.istore_n 2, 1) := by decide +kernel
theorem dX2_laySoonest_118 : decode cX2_laySoonest 118 = .ok (.iinc 3 1, 3) := by decide +kernel
theorem dX2_laySoonest_121 : decode cX2_laySoonest 121 = .ok (.goto (-112), 3) := by decide +kernel
theorem dX2_laySoonest_124 : decode cX2_laySoonest 124 = .ok (.aload_n 0, 1) := by decide +kernel
theorem dX2_laySoonest_125 : decode cX2_laySoonest 125 = .ok (.aload_n 1, 1) := by decide +kernel
theorem dX2_laySoonest_126 : decode cX2_laySoonest 126 = .ok (.invokevirtual 31, 3) := by decide +kernel
theorem dX2_laySoonest_129 : decode cX2_laySoonest 129 = .ok (.return_, 1) := by decide +kernel
theorem dX2_layFixed_0 : decode cX2_layFixed 0 = .ok (.iconst 0, 1) := by decide +kernel
theorem dX2_layFixed_1 : decode cX2_layFixed 1 = .ok (.istore_n 2, 1) := by decide +kernel
theorem dX2_layFixed_2 : decode cX2_layFixed 2 = .ok (.iload_n 2, 1) := by decide +kernel
theorem dX2_layFixed_3 : decode cX2_layFixed 3 = .ok (.bipush 48, 2) := by decide +kernel
theorem dX2_layFixed_5 : decode cX2_layFixed 5 = .ok (.if_icmp .ge 16, 3) := by decide +kernel
theorem dX2_layFixed_8 : decode cX2_layFixed 8 = .ok (.aload_n 0, 1) := by decide +kernel
theorem dX2_layFixed_9 : decode cX2_layFixed 9 = .ok (.getfield 9, 3) := by decide +kernel
theorem dX2_layFixed_12 : decode cX2_layFixed 12 = .ok (.iload_n 2, 1) := by decide +kernel
theorem dX2_layFixed_13 : decode cX2_layFixed 13 = .ok (.iconst 0, 1) := by decide +kernel
theorem dX2_layFixed_14 : decode cX2_layFixed 14 = .ok (.bastore, 1) := by decide +kernel
theorem dX2_layFixed_15 : decode cX2_layFixed 15 = .ok (.iinc 2 1, 3) := by decide +kernel
theorem dX2_layFixed_18 : decode cX2_layFixed 18 = .ok (.goto (-16), 3) := by decide +kernel
theorem dX2_layFixed_21 : decode cX2_layFixed 21 = .ok (.iconst 0, 1) := by decide +kernel
theorem dX2_layFixed_22 : decode cX2_layFixed 22 = .ok (.istore_n 2, 1) := by decide +kernel
theorem dX2_layFixed_23 : decode cX2_layFixed 23 = .ok (.iload_n 2, 1) := by decide +kernel
theorem dX2_layFixed_24 : decode cX2_layFixed 24 = .ok (.aload_n 0, 1) := by decide +kernel
theorem dX2_layFixed_25 : decode cX2_layFixed 25 = .ok (.getfield 15, 3) := by decide +kernel
theorem dX2_layFixed_28 : decode cX2_layFixed 28 = .ok (.getfield 69, 3) := by decide +kernel
theorem dX2_layFixed_31 : decode cX2_layFixed 31 = .ok (.if_icmp .ge 24, 3) := by decide +kernel
theorem dX2_layFixed_34 : decode cX2_layFixed 34 = .ok (.aload_n 0, 1) := by decide +kernel
theorem dX2_layFixed_35 : decode cX2_layFixed 35 = .ok (.aload_n 1, 1) := by decide +kernel
theorem dX2_layFixed_36 : decode cX2_layFixed 36 = .ok (.iload_n 2, 1) := by decide +kernel
theorem dX2_layFixed_37 : decode cX2_layFixed 37 = .ok (.aload_n 0, 1) := by decide +kernel
theorem dX2_layFixed_38 : decode cX2_layFixed 38 = .ok (.getfield 15, 3) := by decide +kernel
theorem dX2_layFixed_41 : decode cX2_layFixed 41 = .ok (.getfield 72, 3) := by decide +kernel
theorem dX2_layFixed_44 : decode cX2_layFixed 44 = .ok (.iload_n 2, 1) := by decide +kernel
theorem dX2_layFixed_45 : decode cX2_layFixed 45 = .ok (.iaload, 1) := by decide +kernel
theorem dX2_layFixed_46 : decode cX2_layFixed 46 = .ok (.invokevirtual 48, 3) := by decide +kernel
theorem dX2_layFixed_49 : decode cX2_layFixed 49 = .ok (.iinc 2 1, 3) := by decide +kernel
theorem dX2_layFixed_52 : decode cX2_layFixed 52 = .ok (.goto (-29), 3) := by decide +kernel
theorem dX2_layFixed_55 : decode cX2_layFixed 55 = .ok (.return_, 1) := by decide +kernel
theorem dX2_layRest_0 : decode cX2_layRest 0 = .ok (.iconst 0, 1) := by decide +kernel
theorem dX2_layRest_1 : decode cX2_layRest 1 = .ok (.istore_n 2, 1) := by decide +kernel
theorem dX2_layRest_2 : decode cX2_layRest 2 = .ok (.iload_n 2, 1) := by decide +kernel
theorem dX2_layRest_3 : decode cX2_layRest 3 = .ok (.aload_n 0, 1) := by decide +kernel
theorem dX2_layRest_4 : decode cX2_layRest 4 = .ok (.getfield 15, 3) := by decide +kernel
theorem dX2_layRest_7 : decode cX2_layRest 7 = .ok (.getfield 69, 3) := by decide +kernel
theorem dX2_layRest_10 : decode cX2_layRest 10 = .ok (.if_icmp .ge 26, 3) := by decide +kernel
theorem dX2_layRest_13 : decode cX2_layRest 13 = .ok (.aload_n 1, 1) := by decide +kernel
theorem dX2_layRest_14 : decode cX2_layRest 14 = .ok (.iload_n 2, 1) := by decide +kernel
theorem dX2_layRest_15 : decode cX2_layRest 15 = .ok (.iaload, 1) := by decide +kernel
theorem dX2_layRest_16 : decode cX2_layRest 16 = .ok (.iconst (-1), 1) := by decide +kernel
theorem dX2_layRest_17 : decode cX2_layRest 17 = .ok (.if_icmp .ne 13, 3) := by decide +kernel
theorem dX2_layRest_20 : decode cX2_layRest 20 = .ok (.aload_n 0, 1) := by decide +kernel
theorem dX2_layRest_21 : decode cX2_layRest 21 = .ok (.aload_n 1, 1) := by decide +kernel
theorem dX2_layRest_22 : decode cX2_layRest 22 = .ok (.iload_n 2, 1) := by decide +kernel
theorem dX2_layRest_23 : decode cX2_layRest 23 = .ok (.aload_n 0, 1) := by decide +kernel
theorem dX2_layRest_24 : decode cX2_layRest 24 = .ok (.invokevirtual 75, 3) := by decide +kernel
theorem dX2_layRest_27 : decode cX2_layRest 27 = .ok (.invokevirtual 48, 3) := by decide +kernel
theorem dX2_layRest_30 : decode cX2_layRest 30 = .ok (.iinc 2 1, 3) := by decide +kernel
theorem dX2_layRest_33 : decode cX2_layRest 33 = .ok (.goto (-31), 3) := by decide +kernel
theorem dX2_layRest_36 : decode cX2_layRest 36 = .ok (.return_, 1) := by decide +kernel
theorem dX2_lay_0 : decode cX2_lay 0 = .ok (.aload_n 1, 1) := by decide +kernel
theorem dX2_lay_1 : decode cX2_lay 1 = .ok (.iload_n 2, 1) := by decide +kernel
theorem dX2_lay_2 : decode cX2_lay 2 = .ok (.iload_n 3, 1) := by decide +kernel
theorem dX2_lay_3 : decode cX2_lay 3 = .ok (.iastore, 1) := by decide +kernel
theorem dX2_lay_4 : decode cX2_lay 4 = .ok (.aload_n 0, 1) := by decide +kernel
theorem dX2_lay_5 : decode cX2_lay 5 = .ok (.getfield 15, 3) := by decide +kernel
theorem dX2_lay_8 : decode cX2_lay 8 = .ok (.iload_n 3, 1) := by decide +kernel
theorem dX2_lay_9 : decode cX2_lay 9 = .ok (.invokevirtual 79, 3) := by decide +kernel
theorem dX2_lay_12 : decode cX2_lay 12 = .ok (.ifCond .eq 10, 3) := by decide +kernel
theorem dX2_lay_15 : decode cX2_lay 15 = .ok (.aload_n 0, 1) := by decide +kernel
theorem dX2_lay_16 : decode cX2_lay 16 = .ok (.getfield 9, 3) := by decide +kernel
theorem dX2_lay_19 : decode cX2_lay 19 = .ok (.iload_n 3, 1) := by decide +kernel
theorem dX2_lay_20 : decode cX2_lay 20 = .ok (.iconst 1, 1) := by decide +kernel
theorem dX2_lay_21 : decode cX2_lay 21 = .ok (.bastore, 1) := by decide +kernel
theorem dX2_lay_22 : decode cX2_lay 22 = .ok (.return_, 1) := by decide +kernel
theorem dX2_leastFree_0 : decode cX2_leastFree 0 = .ok (.iconst 0, 1) := by decide +kernel
theorem dX2_leastFree_1 : decode cX2_leastFree 1 = .ok (.istore_n 1, 1) := by decide +kernel
theorem dX2_leastFree_2 : decode cX2_leastFree 2 = .ok (.iload_n 1, 1) := by decide +kernel
theorem dX2_leastFree_3 : decode cX2_leastFree 3 = .ok (.aload_n 0, 1) := by decide +kernel
theorem dX2_leastFree_4 : decode cX2_leastFree 4 = .ok (.getfield 15, 3) := by decide +kernel
theorem dX2_leastFree_7 : decode cX2_leastFree 7 = .ok (.invokevirtual 83, 3) := by decide +kernel
theorem dX2_leastFree_10 : decode cX2_leastFree 10 = .ok (.if_icmp .ge 20, 3) := by decide +kernel
theorem dX2_leastFree_13 : decode cX2_leastFree 13 = .ok (.aload_n 0, 1) := by decide +kernel
theorem dX2_leastFree_14 : decode cX2_leastFree 14 = .ok (.getfield 9, 3) := by decide +kernel
theorem dX2_leastFree_17 : decode cX2_leastFree 17 = .ok (.iload_n 1, 1) := by decide +kernel
theorem dX2_leastFree_18 : decode cX2_leastFree 18 = .ok (.baload, 1) := by decide +kernel
theorem dX2_leastFree_19 : decode cX2_leastFree 19 = .ok (.ifCond .ne 5, 3) := by decide +kernel
theorem dX2_leastFree_22 : decode cX2_leastFree 22 = .ok (.iload_n 1, 1) := by decide +kernel
theorem dX2_leastFree_23 : decode cX2_leastFree 23 = .ok (.ireturn, 1) := by decide +kernel
theorem dX2_leastFree_24 : decode cX2_leastFree 24 = .ok (.iinc 1 1, 3) := by decide +kernel
theorem dX2_leastFree_27 : decode cX2_leastFree 27 = .ok (.goto (-25), 3) := by decide +kernel
theorem dX2_leastFree_30 : decode cX2_leastFree 30 = .ok (.iconst (-1), 1) := by decide +kernel
theorem dX2_leastFree_31 : decode cX2_leastFree 31 = .ok (.ireturn, 1) := by decide +kernel
theorem dX2_soonest_0 : decode cX2_soonest 0 = .ok (.iconst (-1), 1) := by decide +kernel
theorem dX2_soonest_1 : decode cX2_soonest 1 = .ok (.istore_n 2, 1) := by decide +kernel
theorem dX2_soonest_2 : decode cX2_soonest 2 = .ok (.bipush 12, 2) := by decide +kernel
theorem dX2_soonest_4 : decode cX2_soonest 4 = .ok (.istore_n 3, 1) := by decide +kernel
theorem dX2_soonest_5 : decode cX2_soonest 5 = .ok (.iconst 0, 1) := by decide +kernel
theorem dX2_soonest_6 : decode cX2_soonest 6 = .ok (.istore 4, 2) := by decide +kernel
theorem dX2_soonest_8 : decode cX2_soonest 8 = .ok (.iload 4, 2) := by decide +kernel
theorem dX2_soonest_10 : decode cX2_soonest 10 = .ok (.aload_n 0, 1) := by decide +kernel
theorem dX2_soonest_11 : decode cX2_soonest 11 = .ok (.getfield 15, 3) := by decide +kernel
theorem dX2_soonest_14 : decode cX2_soonest 14 = .ok (.invokevirtual 83, 3) := by decide +kernel
theorem dX2_soonest_17 : decode cX2_soonest 17 = .ok (.if_icmp .ge 43, 3) := by decide +kernel
theorem dX2_soonest_20 : decode cX2_soonest 20 = .ok (.aload_n 0, 1) := by decide +kernel
theorem dX2_soonest_21 : decode cX2_soonest 21 = .ok (.getfield 23, 3) := by decide +kernel
theorem dX2_soonest_24 : decode cX2_soonest 24 = .ok (.iload_n 1, 1) := by decide +kernel
theorem dX2_soonest_25 : decode cX2_soonest 25 = .ok (.iload 4, 2) := by decide +kernel
theorem dX2_soonest_27 : decode cX2_soonest 27 = .ok (.invokevirtual 55, 3) := by decide +kernel
theorem dX2_soonest_30 : decode cX2_soonest 30 = .ok (.istore 5, 2) := by decide +kernel
theorem dX2_soonest_32 : decode cX2_soonest 32 = .ok (.aload_n 0, 1) := by decide +kernel
theorem dX2_soonest_33 : decode cX2_soonest 33 = .ok (.getfield 9, 3) := by decide +kernel
theorem dX2_soonest_36 : decode cX2_soonest 36 = .ok (.iload 4, 2) := by decide +kernel
theorem dX2_soonest_38 : decode cX2_soonest 38 = .ok (.baload, 1) := by decide +kernel
theorem dX2_soonest_39 : decode cX2_soonest 39 = .ok (.ifCond .ne 15, 3) := by decide +kernel
theorem dX2_soonest_42 : decode cX2_soonest 42 = .ok (.iload 5, 2) := by decide +kernel
theorem dX2_soonest_44 : decode cX2_soonest 44 = .ok (.iload_n 3, 1) := by decide +kernel
theorem dX2_soonest_45 : decode cX2_soonest 45 = .ok (.if_icmp .ge 9, 3) := by decide +kernel
theorem dX2_soonest_48 : decode cX2_soonest 48 = .ok (.iload 4, 2) := by decide +kernel
theorem dX2_soonest_50 : decode cX2_soonest 50 = .ok (.istore_n 2, 1) := by decide +kernel
theorem dX2_soonest_51 : decode cX2_soonest 51 = .ok (.iload 5, 2) := by decide +kernel
theorem dX2_soonest_53 : decode cX2_soonest 53 = .ok (.istore_n 3, 1) := by decide +kernel
theorem dX2_soonest_54 : decode cX2_soonest 54 = .ok (.iinc 4 1, 3) := by decide +kernel
theorem dX2_soonest_57 : decode cX2_soonest 57 = .ok (.goto (-49), 3) := by decide +kernel
theorem dX2_soonest_60 : decode cX2_soonest 60 = .ok (.iload_n 2, 1) := by decide +kernel
theorem dX2_soonest_61 : decode cX2_soonest 61 = .ok (.ireturn, 1) := by decide +kernel
theorem dX3_init_0 : decode cX3_init 0 = .ok (.aload_n 0, 1) := by decide +kernel
theorem dX3_init_1 : decode cX3_init 1 = .ok (.invokespecial 3, 3) := by decide +kernel
theorem dX3_init_4 : decode cX3_init 4 = .ok (.aload_n 0, 1) := by decide +kernel
theorem dX3_init_5 : decode cX3_init 5 = .ok (.iconst 0, 1) := by decide +kernel
theorem dX3_init_6 : decode cX3_init 6 = .ok (.putfield 9, 3) := by decide +kernel
theorem dX3_init_9 : decode cX3_init 9 = .ok (.aload_n 0, 1) := by decide +kernel
theorem dX3_init_10 : decode cX3_init 10 = .ok (.iconst 0, 1) := by decide +kernel
theorem dX3_init_11 : decode cX3_init 11 = .ok (.putfield 15, 3) := by decide +kernel
theorem dX3_init_14 : decode cX3_init 14 = .ok (.aload_n 0, 1) := by decide +kernel
theorem dX3_init_15 : decode cX3_init 15 = .ok (.iconst 0, 1) := by decide +kernel
theorem dX3_init_16 : decode cX3_init 16 = .ok (.putfield 18, 3) := by decide +kernel
theorem dX3_init_19 : decode cX3_init 19 = .ok (.aload_n 0, 1) := by decide +kernel
theorem dX3_init_20 : decode cX3_init 20 = .ok (.iconst 0, 1) := by decide +kernel
theorem dX3_init_21 : decode cX3_init 21 = .ok (.putfield 21, 3) := by decide +kernel
theorem dX3_init_24 : decode cX3_init 24 = .ok (.aload_n 0, 1) := by decide +kernel
theorem dX3_init_25 : decode cX3_init 25 = .ok (.iconst 0, 1) := by decide +kernel
theorem dX3_init_26 : decode cX3_init 26 = .ok (.putfield 24, 3) := by decide +kernel
theorem dX3_init_29 : decode cX3_init 29 = .ok (.aload_n 0, 1) := by decide +kernel
theorem dX3_init_30 : decode cX3_init 30 = .ok (.iconst 0, 1) := by decide +kernel
theorem dX3_init_31 : decode cX3_init 31 = .ok (.putfield 27, 3) := by decide +kernel
theorem dX3_init_34 : decode cX3_init 34 = .ok (.aload_n 0, 1) := by decide +kernel
theorem dX3_init_35 : decode cX3_init 35 = .ok (.iconst 0, 1) := by decide +kernel
theorem dX3_init_36 : decode cX3_init 36 = .ok (.putfield 30, 3) := by decide +kernel
theorem dX3_init_39 : decode cX3_init 39 = .ok (.aload_n 0, 1) := by decide +kernel
theorem dX3_init_40 : decode cX3_init 40 = .ok (.iconst 0, 1) := by decide +kernel
theorem dX3_init_41 : decode cX3_init 41 = .ok (.putfield 33, 3) := by decide +kernel
theorem dX3_init_44 : decode cX3_init 44 = .ok (.aload_n 0, 1) := by decide +kernel
theorem dX3_init_45 : decode cX3_init 45 = .ok (.iconst 0, 1) := by decide +kernel
theorem dX3_init_46 : decode cX3_init 46 = .ok (.putfield 36, 3) := by decide +kernel
theorem dX3_init_49 : decode cX3_init 49 = .ok (.aload_n 0, 1) := by decide +kernel
theorem dX3_init_50 : decode cX3_init 50 = .ok (.iconst (-1), 1) := by decide +kernel
theorem dX3_init_51 : decode cX3_init 51 = .ok (.putfield 39, 3) := by decide +kernel
theorem dX3_init_54 : decode cX3_init 54 = .ok (.aload_n 0, 1) := by decide +kernel
theorem dX3_init_55 : decode cX3_init 55 = .ok (.bipush 20, 2) := by decide +kernel
theorem dX3_init_57 : decode cX3_init 57 = .ok (.newarray .int, 2) := by decide +kernel
theorem dX3_init_59 : decode cX3_init 59 = .ok (.putfield 42, 3) := by decide +kernel
theorem dX3_init_62 : decode cX3_init 62 = .ok (.aload_n 0, 1) := by decide +kernel
theorem dX3_init_63 : decode cX3_init 63 = .ok (.bipush 20, 2) := by decide +kernel
theorem dX3_init_65 : decode cX3_init 65 = .ok (.newarray .int, 2) := by decide +kernel
theorem dX3_init_67 : decode cX3_init 67 = .ok (.putfield 46, 3) := by decide +kernel
theorem dX3_init_70 : decode cX3_init 70 = .ok (.aload_n 0, 1) := by decide +kernel
theorem dX3_init_71 : decode cX3_init 71 = .ok (.bipush 20, 2) := by decide +kernel
theorem dX3_init_73 : decode cX3_init 73 = .ok (.newarray .int, 2) := by decide +kernel
theorem dX3_init_75 : decode cX3_init 75 = .ok (.putfield 49, 3) := by decide +kernel
theorem dX3_init_78 : decode cX3_init 78 = .ok (.aload_n 0, 1) := by decide +kernel
theorem dX3_init_79 : decode cX3_init 79 = .ok (.bipush 20, 2) := by decide +kernel
theorem dX3_init_81 : decode cX3_init 81 = .ok (.newarray .int, 2) := by decide +kernel
theorem dX3_init_83 : decode cX3_init 83 = .ok (.putfield 52, 3) := by decide +kernel
theorem dX3_init_86 : decode cX3_init 86 = .ok (.aload_n 0, 1) := by decide +kernel
theorem dX3_init_87 : decode cX3_init 87 = .ok (.bipush 20, 2) := by decide +kernel
theorem dX3_init_89 : decode cX3_init 89 = .ok (.newarray .int, 2) := by decide +kernel
theorem dX3_init_91 : decode cX3_init 91 = .ok (.putfield 55, 3) := by decide +kernel
theorem dX3_init_94 : decode cX3_init 94 = .ok (.aload_n 0, 1) := by decide +kernel
theorem dX3_init_95 : decode cX3_init 95 = .ok (.bipush 20, 2) := by decide +kernel
theorem dX3_init_97 : decode cX3_init 97 = .ok (.newarray .int, 2) := by decide +kernel
theorem dX3_init_99 : decode cX3_init 99 = .ok (.putfield 58, 3) := by decide +kernel
theorem dX3_init_102 : decode cX3_init 102 = .ok (.aload_n 0, 1) := by decide +kernel
theorem dX3_init_103 : decode cX3_init 103 = .ok (.bipush 8, 2) := by decide +kernel
theorem dX3_init_105 : decode cX3_init 105 = .ok (.newarray .int, 2) := by decide +kernel
theorem dX3_init_107 : decode cX3_init 107 = .ok (.putfield 61, 3) := by decide +kernel
theorem dX3_init_110 : decode cX3_init 110 = .ok (.aload_n 0, 1) := by decide +kernel
theorem dX3_init_111 : decode cX3_init 111 = .ok (.bipush 20, 2) := by decide +kernel
theorem dX3_init_113 : decode cX3_init 113 = .ok (.newarray .int, 2) := by decide +kernel
theorem dX3_init_115 : decode cX3_init 115 = .ok (.putfield 64, 3) := by decide +kernel
theorem dX3_init_118 : decode cX3_init 118 = .ok (.return_, 1) := by decide +kernel
theorem dX3_clear_0 : decode cX3_clear 0 = .ok (.aload_n 0, 1) := by decide +kernel
theorem dX3_clear_1 : decode cX3_clear 1 = .ok (.iconst 0, 1) := by decide +kernel
theorem dX3_clear_2 : decode cX3_clear 2 = .ok (.putfield 9, 3) := by decide +kernel
theorem dX3_clear_5 : decode cX3_clear 5 = .ok (.aload_n 0, 1) := by decide +kernel
theorem dX3_clear_6 : decode cX3_clear 6 = .ok (.iconst 0, 1) := by decide +kernel
theorem dX3_clear_7 : decode cX3_clear 7 = .ok (.putfield 15, 3) := by decide +kernel
theorem dX3_clear_10 : decode cX3_clear 10 = .ok (.aload_n 0, 1) := by decide +kernel
theorem dX3_clear_11 : decode cX3_clear 11 = .ok (.iconst 0, 1) := by decide +kernel
theorem dX3_clear_12 : decode cX3_clear 12 = .ok (.putfield 18, 3) := by decide +kernel
theorem dX3_clear_15 : decode cX3_clear 15 = .ok (.aload_n 0, 1) := by decide +kernel
theorem dX3_clear_16 : decode cX3_clear 16 = .ok (.iconst 0, 1) := by decide +kernel
theorem dX3_clear_17 : decode cX3_clear 17 = .ok (.putfield 21, 3) := by decide +kernel
theorem dX3_clear_20 : decode cX3_clear 20 = .ok (.aload_n 0, 1) := by decide +kernel
theorem dX3_clear_21 : decode cX3_clear 21 = .ok (.iconst 0, 1) := by decide +kernel
theorem dX3_clear_22 : decode cX3_clear 22 = .ok (.putfield 24, 3) := by decide +kernel
theorem dX3_clear_25 : decode cX3_clear 25 = .ok (.aload_n 0, 1) := by decide +kernel
theorem dX3_clear_26 : decode cX3_clear 26 = .ok (.iconst 0, 1) := by decide +kernel
theorem dX3_clear_27 : decode cX3_clear 27 = .ok (.putfield 27, 3) := by decide +kernel
theorem dX3_clear_30 : decode cX3_clear 30 = .ok (.aload_n 0, 1) := by decide +kernel
theorem dX3_clear_31 : decode cX3_clear 31 = .ok (.iconst 0, 1) := by decide +kernel
theorem dX3_clear_32 : decode cX3_clear 32 = .ok (.putfield 30, 3) := by decide +kernel
theorem dX3_clear_35 : decode cX3_clear 35 = .ok (.aload_n 0, 1) := by decide +kernel
theorem dX3_clear_36 : decode cX3_clear 36 = .ok (.iconst 0, 1) := by decide +kernel
theorem dX3_clear_37 : decode cX3_clear 37 = .ok (.putfield 33, 3) := by decide +kernel
theorem dX3_clear_40 : decode cX3_clear 40 = .ok (.aload_n 0, 1) := by decide +kernel
theorem dX3_clear_41 : decode cX3_clear 41 = .ok (.iconst 0, 1) := by decide +kernel
theorem dX3_clear_42 : decode cX3_clear 42 = .ok (.putfield 36, 3) := by decide +kernel
theorem dX3_clear_45 : decode cX3_clear 45 = .ok (.aload_n 0, 1) := by decide +kernel
theorem dX3_clear_46 : decode cX3_clear 46 = .ok (.iconst (-1), 1) := by decide +kernel
theorem dX3_clear_47 : decode cX3_clear 47 = .ok (.putfield 39, 3) := by decide +kernel
theorem dX3_clear_50 : decode cX3_clear 50 = .ok (.return_, 1) := by decide +kernel
theorem dX3_copyFrom_0 : decode cX3_copyFrom 0 = .ok (.aload_n 0, 1) := by decide +kernel
theorem dX3_copyFrom_1 : decode cX3_copyFrom 1 = .ok (.aload_n 1, 1) := by decide +kernel
theorem dX3_copyFrom_2 : decode cX3_copyFrom 2 = .ok (.getfield 9, 3) := by decide +kernel
theorem dX3_copyFrom_5 : decode cX3_copyFrom 5 = .ok (.putfield 9, 3) := by decide +kernel
theorem dX3_copyFrom_8 : decode cX3_copyFrom 8 = .ok (.aload_n 0, 1) := by decide +kernel
theorem dX3_copyFrom_9 : decode cX3_copyFrom 9 = .ok (.aload_n 1, 1) := by decide +kernel
theorem dX3_copyFrom_10 : decode cX3_copyFrom 10 = .ok (.getfield 15, 3) := by decide +kernel
theorem dX3_copyFrom_13 : decode cX3_copyFrom 13 = .ok (.putfield 15, 3) := by decide +kernel
theorem dX3_copyFrom_16 : decode cX3_copyFrom 16 = .ok (.aload_n 0, 1) := by decide +kernel
theorem dX3_copyFrom_17 : decode cX3_copyFrom 17 = .ok (.aload_n 1, 1) := by decide +kernel
theorem dX3_copyFrom_18 : decode cX3_copyFrom 18 = .ok (.getfield 18, 3) := by decide +kernel
theorem dX3_copyFrom_21 : decode cX3_copyFrom 21 = .ok (.putfield 18, 3) := by decide +kernel
theorem dX3_copyFrom_24 : decode cX3_copyFrom 24 = .ok (.aload_n 0, 1) := by decide +kernel
theorem dX3_copyFrom_25 : decode cX3_copyFrom 25 = .ok (.aload_n 1, 1) := by decide +kernel
theorem dX3_copyFrom_26 : decode cX3_copyFrom 26 = .ok (.getfield 21, 3) := by decide +kernel
theorem dX3_copyFrom_29 : decode cX3_copyFrom 29 = .ok (.putfield 21, 3) := by decide +kernel
theorem dX3_copyFrom_32 : decode cX3_copyFrom 32 = .ok (.aload_n 0, 1) := by decide +kernel
theorem dX3_copyFrom_33 : decode cX3_copyFrom 33 = .ok (.aload_n 1, 1) := by decide +kernel
theorem dX3_copyFrom_34 : decode cX3_copyFrom 34 = .ok (.getfield 24, 3) := by decide +kernel
theorem dX3_copyFrom_37 : decode cX3_copyFrom 37 = .ok (.putfield 24, 3) := by decide +kernel
theorem dX3_copyFrom_40 : decode cX3_copyFrom 40 = .ok (.aload_n 0, 1) := by decide +kernel
theorem dX3_copyFrom_41 : decode cX3_copyFrom 41 = .ok (.aload_n 1, 1) := by decide +kernel
theorem dX3_copyFrom_42 : decode cX3_copyFrom 42 = .ok (.getfield 27, 3) := by decide +kernel
theorem dX3_copyFrom_45 : decode cX3_copyFrom 45 = .ok (.putfield 27, 3) := by decide +kernel
theorem dX3_copyFrom_48 : decode cX3_copyFrom 48 = .ok (.aload_n 0, 1) := by decide +kernel
theorem dX3_copyFrom_49 : decode cX3_copyFrom 49 = .ok (.aload_n 1, 1) := by decide +kernel
theorem dX3_copyFrom_50 : decode cX3_copyFrom 50 = .ok (.getfield 30, 3) := by decide +kernel
theorem dX3_copyFrom_53 : decode cX3_copyFrom 53 = .ok (.putfield 30, 3) := by decide +kernel
theorem dX3_copyFrom_56 : decode cX3_copyFrom 56 = .ok (.aload_n 0, 1) := by decide +kernel
theorem dX3_copyFrom_57 : decode cX3_copyFrom 57 = .ok (.aload_n 1, 1) := by decide +kernel
theorem dX3_copyFrom_58 : decode cX3_copyFrom 58 = .ok (.getfield 33, 3) := by decide +kernel
theorem dX3_copyFrom_61 : decode cX3_copyFrom 61 = .ok (.putfield 33, 3) := by decide +kernel
theorem dX3_copyFrom_64 : decode cX3_copyFrom 64 = .ok (.aload_n 0, 1) := by decide +kernel
theorem dX3_copyFrom_65 : decode cX3_copyFrom 65 = .ok (.aload_n 1, 1) := by decide +kernel
theorem dX3_copyFrom_66 : decode cX3_copyFrom 66 = .ok (.getfield 36, 3) := by decide +kernel
theorem dX3_copyFrom_69 : decode cX3_copyFrom 69 = .ok (.putfield 36, 3) := by decide +kernel
theorem dX3_copyFrom_72 : decode cX3_copyFrom 72 = .ok (.aload_n 0, 1) := by decide +kernel
theorem dX3_copyFrom_73 : decode cX3_copyFrom 73 = .ok (.aload_n 1, 1) := by decide +kernel
theorem dX3_copyFrom_74 : decode cX3_copyFrom 74 = .ok (.getfield 39, 3) := by decide +kernel
theorem dX3_copyFrom_77 : decode cX3_copyFrom 77 = .ok (.putfield 39, 3) := by decide +kernel
theorem dX3_copyFrom_80 : decode cX3_copyFrom 80 = .ok (.aload_n 1, 1) := by decide +kernel
theorem dX3_copyFrom_81 : decode cX3_copyFrom 81 = .ok (.getfield 42, 3) := by decide +kernel
theorem dX3_copyFrom_84 : decode cX3_copyFrom 84 = .ok (.aload_n 0, 1) := by decide +kernel
theorem dX3_copyFrom_85 : decode cX3_copyFrom 85 = .ok (.getfield 42, 3) := by decide +kernel
theorem dX3_copyFrom_88 : decode cX3_copyFrom 88 = .ok (.invokestatic 67, 3) := by decide +kernel
theorem dX3_copyFrom_91 : decode cX3_copyFrom 91 = .ok (.aload_n 1, 1) := by decide +kernel
theorem dX3_copyFrom_92 : decode cX3_copyFrom 92 = .ok (.getfield 46, 3) := by decide +kernel
theorem dX3_copyFrom_95 : decode cX3_copyFrom 95 = .ok (.aload_n 0, 1) := by decide +kernel
theorem dX3_copyFrom_96 : decode cX3_copyFrom 96 = .ok (.getfield 46, 3) := by decide +kernel
theorem dX3_copyFrom_99 : decode cX3_copyFrom 99 = .ok (.invokestatic 67, 3) := by decide +kernel
theorem dX3_copyFrom_102 : decode cX3_copyFrom 102 = .ok (.aload_n 1, 1) := by decide +kernel
theorem dX3_copyFrom_103 : decode cX3_copyFrom 103 = .ok (.getfield 49, 3) := by decide +kernel
theorem dX3_copyFrom_106 : decode cX3_copyFrom 106 = .ok (.aload_n 0, 1) := by decide +kernel
theorem dX3_copyFrom_107 : decode cX3_copyFrom 107 = .ok (.getfield 49, 3) := by decide +kernel
theorem dX3_copyFrom_110 : decode cX3_copyFrom 110 = .ok (.invokestatic 67, 3) := by decide +kernel
theorem dX3_copyFrom_113 : decode cX3_copyFrom 113 = .ok (.aload_n 1, 1) := by decide +kernel
theorem dX3_copyFrom_114 : decode cX3_copyFrom 114 = .ok (.getfield 52, 3) := by decide +kernel
theorem dX3_copyFrom_117 : decode cX3_copyFrom 117 = .ok (.aload_n 0, 1) := by decide +kernel
theorem dX3_copyFrom_118 : decode cX3_copyFrom 118 = .ok (.getfield 52, 3) := by decide +kernel
theorem dX3_copyFrom_121 : decode cX3_copyFrom 121 = .ok (.invokestatic 67, 3) := by decide +kernel
theorem dX3_copyFrom_124 : decode cX3_copyFrom 124 = .ok (.aload_n 1, 1) := by decide +kernel
theorem dX3_copyFrom_125 : decode cX3_copyFrom 125 = .ok (.getfield 55, 3) := by decide +kernel
theorem dX3_copyFrom_128 : decode cX3_copyFrom 128 = .ok (.aload_n 0, 1) := by decide +kernel
theorem dX3_copyFrom_129 : decode cX3_copyFrom 129 = .ok (.getfield 55, 3) := by decide +kernel
theorem dX3_copyFrom_132 : decode cX3_copyFrom 132 = .ok (.invokestatic 67, 3) := by decide +kernel
theorem dX3_copyFrom_135 : decode cX3_copyFrom 135 = .ok (.aload_n 1, 1) := by decide +kernel
theorem dX3_copyFrom_136 : decode cX3_copyFrom 136 = .ok (.getfield 58, 3) := by decide +kernel
theorem dX3_copyFrom_139 : decode cX3_copyFrom 139 = .ok (.aload_n 0, 1) := by decide +kernel
theorem dX3_copyFrom_140 : decode cX3_copyFrom 140 = .ok (.getfield 58, 3) := by decide +kernel
theorem dX3_copyFrom_143 : decode cX3_copyFrom 143 = .ok (.invokestatic 67, 3) := by decide +kernel
theorem dX3_copyFrom_146 : decode cX3_copyFrom 146 = .ok (.aload_n 1, 1) := by decide +kernel
theorem dX3_copyFrom_147 : decode cX3_copyFrom 147 = .ok (.getfield 64, 3) := by decide +kernel
theorem dX3_copyFrom_150 : decode cX3_copyFrom 150 = .ok (.aload_n 0, 1) := by decide +kernel
theorem dX3_copyFrom_151 : decode cX3_copyFrom 151 = .ok (.getfield 64, 3) := by decide +kernel
theorem dX3_copyFrom_154 : decode cX3_copyFrom 154 = .ok (.invokestatic 67, 3) := by decide +kernel
theorem dX3_copyFrom_157 : decode cX3_copyFrom 157 = .ok (.aload_n 1, 1) := by decide +kernel
theorem dX3_copyFrom_158 : decode cX3_copyFrom 158 = .ok (.getfield 61, 3) := by decide +kernel
theorem dX3_copyFrom_161 : decode cX3_copyFrom 161 = .ok (.iconst 0, 1) := by decide +kernel
theorem dX3_copyFrom_162 : decode cX3_copyFrom 162 = .ok (.aload_n 0, 1) := by decide +kernel
theorem dX3_copyFrom_163 : decode cX3_copyFrom 163 = .ok (.getfield 61, 3) := by decide +kernel
theorem dX3_copyFrom_166 : decode cX3_copyFrom 166 = .ok (.iconst 0, 1) := by decide +kernel
theorem dX3_copyFrom_167 : decode cX3_copyFrom 167 = .ok (.bipush 8, 2) := by decide +kernel
theorem dX3_copyFrom_169 : decode cX3_copyFrom 169 = .ok (.invokestatic 71, 3) := by decide +kernel
theorem dX3_copyFrom_172 : decode cX3_copyFrom 172 = .ok (.return_, 1) := by decide +kernel
theorem dX3_addWord_0 : decode cX3_addWord 0 = .ok (.aload_n 0, 1) := by decide +kernel
theorem dX3_addWord_1 : decode cX3_addWord 1 = .ok (.getfield 33, 3) := by decide +kernel
theorem dX3_addWord_4 : decode cX3_addWord 4 = .ok (.bipush 8, 2) := by decide +kernel
theorem dX3_addWord_6 : decode cX3_addWord 6 = .ok (.if_icmp .ge 12, 3) := by decide +kernel
theorem dX3_addWord_9 : decode cX3_addWord 9 = .ok (.aload_n 0, 1) := by decide +kernel
theorem dX3_addWord_10 : decode cX3_addWord 10 = .ok (.getfield 30, 3) := by decide +kernel
theorem dX3_addWord_13 : decode cX3_addWord 13 = .ok (.bipush 20, 2) := by decide +kernel
theorem dX3_addWord_15 : decode cX3_addWord 15 = .ok (.if_icmp .lt 4, 3) := by decide +kernel
theorem dX3_addWord_18 : decode cX3_addWord 18 = .ok (.return_, 1) := by decide +kernel
theorem dX3_addWord_19 : decode cX3_addWord 19 = .ok (.aload_n 0, 1) := by decide +kernel
theorem dX3_addWord_20 : decode cX3_addWord 20 = .ok (.getfield 61, 3) := by decide +kernel
theorem dX3_addWord_23 : decode cX3_addWord 23 = .ok (.aload_n 0, 1) := by decide +kernel
theorem dX3_addWord_24 : decode cX3_addWord 24 = .ok (.getfield 33, 3) := by decide +kernel
theorem dX3_addWord_27 : decode cX3_addWord 27 = .ok (.aload_n 0, 1) := by decide +kernel
theorem dX3_addWord_28 : decode cX3_addWord 28 = .ok (.getfield 30, 3) := by decide +kernel
theorem dX3_addWord_31 : decode cX3_addWord 31 = .ok (.iastore, 1) := by decide +kernel
theorem dX3_addWord_32 : decode cX3_addWord 32 = .ok (.aload_n 0, 1) := by decide +kernel
theorem dX3_addWord_33 : decode cX3_addWord 33 = .ok (.getfield 64, 3) := by decide +kernel
theorem dX3_addWord_36 : decode cX3_addWord 36 = .ok (.aload_n 0, 1) := by decide +kernel
theorem dX3_addWord_37 : decode cX3_addWord 37 = .ok (.getfield 30, 3) := by decide +kernel
theorem dX3_addWord_40 : decode cX3_addWord 40 = .ok (.aload_n 0, 1) := by decide +kernel
theorem dX3_addWord_41 : decode cX3_addWord 41 = .ok (.getfield 33, 3) := by decide +kernel
theorem dX3_addWord_44 : decode cX3_addWord 44 = .ok (.iastore, 1) := by decide +kernel
theorem dX3_addWord_45 : decode cX3_addWord 45 = .ok (.aload_n 0, 1) := by decide +kernel
theorem dX3_addWord_46 : decode cX3_addWord 46 = .ok (.getfield 49, 3) := by decide +kernel
theorem dX3_addWord_49 : decode cX3_addWord 49 = .ok (.aload_n 0, 1) := by decide +kernel
theorem dX3_addWord_50 : decode cX3_addWord 50 = .ok (.getfield 30, 3) := by decide +kernel
theorem dX3_addWord_53 : decode cX3_addWord 53 = .ok (.iload_n 1, 1) := by decide +kernel
theorem dX3_addWord_54 : decode cX3_addWord 54 = .ok (.iastore, 1) := by decide +kernel
theorem dX3_addWord_55 : decode cX3_addWord 55 = .ok (.aload_n 0, 1) := by decide +kernel
theorem dX3_addWord_56 : decode cX3_addWord 56 = .ok (.dup, 1) := by decide +kernel
theorem dX3_addWord_57 : decode cX3_addWord 57 = .ok (.getfield 33, 3) := by decide +kernel
theorem dX3_addWord_60 : decode cX3_addWord 60 = .ok (.iconst 1, 1) := by decide +kernel
theorem dX3_addWord_61 : decode cX3_addWord 61 = .ok (.iadd, 1) := by decide +kernel
theorem dX3_addWord_62 : decode cX3_addWord 62 = .ok (.putfield 33, 3) := by decide +kernel
theorem dX3_addWord_65 : decode cX3_addWord 65 = .ok (.aload_n 0, 1) := by decide +kernel
theorem dX3_addWord_66 : decode cX3_addWord 66 = .ok (.iconst (-1), 1) := by decide +kernel
theorem dX3_addWord_67 : decode cX3_addWord 67 = .ok (.iload_n 2, 1) := by decide +kernel
theorem dX3_addWord_68 : decode cX3_addWord 68 = .ok (.invokevirtual 77, 3) := by decide +kernel
theorem dX3_addWord_71 : decode cX3_addWord 71 = .ok (.return_, 1) := by decide +kernel
theorem dX3_addStep_0 : decode cX3_addStep 0 = .ok (.aload_n 0, 1) := by decide +kernel
theorem dX3_addStep_1 : decode cX3_addStep 1 = .ok (.getfield 36, 3) := by decide +kernel
theorem dX3_addStep_4 : decode cX3_addStep 4 = .ok (.bipush 12, 2) := by decide +kernel
theorem dX3_addStep_6 : decode cX3_addStep 6 = .ok (.if_icmp .ge 12, 3) := by decide +kernel
theorem dX3_addStep_9 : decode cX3_addStep 9 = .ok (.aload_n 0, 1) := by decide +kernel
theorem dX3_addStep_10 : decode cX3_addStep 10 = .ok (.getfield 30, 3) := by decide +kernel
theorem dX3_addStep_13 : decode cX3_addStep 13 = .ok (.bipush 20, 2) := by decide +kernel
theorem dX3_addStep_15 : decode cX3_addStep 15 = .ok (.if_icmp .lt 4, 3) := by decide +kernel
theorem dX3_addStep_18 : decode cX3_addStep 18 = .ok (.return_, 1) := by decide +kernel
theorem dX3_addStep_19 : decode cX3_addStep 19 = .ok (.aload_n 0, 1) := by decide +kernel
theorem dX3_addStep_20 : decode cX3_addStep 20 = .ok (.getfield 36, 3) := by decide +kernel
theorem dX3_addStep_23 : decode cX3_addStep 23 = .ok (.ifCond .ne 11, 3) := by decide +kernel
theorem dX3_addStep_26 : decode cX3_addStep 26 = .ok (.aload_n 0, 1) := by decide +kernel
theorem dX3_addStep_27 : decode cX3_addStep 27 = .ok (.aload_n 0, 1) := by decide +kernel
theorem dX3_addStep_28 : decode cX3_addStep 28 = .ok (.getfield 30, 3) := by decide +kernel
theorem dX3_addStep_31 : decode cX3_addStep 31 = .ok (.putfield 39, 3) := by decide +kernel
theorem dX3_addStep_34 : decode cX3_addStep 34 = .ok (.aload_n 0, 1) := by decide +kernel
theorem dX3_addStep_35 : decode cX3_addStep 35 = .ok (.getfield 55, 3) := by decide +kernel
theorem dX3_addStep_38 : decode cX3_addStep 38 = .ok (.aload_n 0, 1) := by decide +kernel
theorem dX3_addStep_39 : decode cX3_addStep 39 = .ok (.getfield 30, 3) := by decide +kernel
theorem dX3_addStep_42 : decode cX3_addStep 42 = .ok (.iload_n 2, 1) := by decide +kernel
theorem dX3_addStep_43 : decode cX3_addStep 43 = .ok (.iastore, 1) := by decide +kernel
theorem dX3_addStep_44 : decode cX3_addStep 44 = .ok (.aload_n 0, 1) := by decide +kernel
theorem dX3_addStep_45 : decode cX3_addStep 45 = .ok (.dup, 1) := by decide +kernel
theorem dX3_addStep_46 : decode cX3_addStep 46 = .ok (.getfield 36, 3) := by decide +kernel
theorem dX3_addStep_49 : decode cX3_addStep 49 = .ok (.iconst 1, 1) := by decide +kernel
theorem dX3_addStep_50 : decode cX3_addStep 50 = .ok (.iadd, 1) := by decide +kernel
theorem dX3_addStep_51 : decode cX3_addStep 51 = .ok (.putfield 36, 3) := by decide +kernel
theorem dX3_addStep_54 : decode cX3_addStep 54 = .ok (.aload_n 0, 1) := by decide +kernel
theorem dX3_addStep_55 : decode cX3_addStep 55 = .ok (.iload_n 1, 1) := by decide +kernel
theorem dX3_addStep_56 : decode cX3_addStep 56 = .ok (.iload_n 3, 1) := by decide +kernel
theorem dX3_addStep_57 : decode cX3_addStep 57 = .ok (.invokevirtual 77, 3) := by decide +kernel
theorem dX3_addStep_60 : decode cX3_addStep 60 = .ok (.return_, 1) := by decide +kernel
theorem dX3_addItem_0 : decode cX3_addItem 0 = .ok (.aload_n 0, 1) := by decide +kernel
theorem dX3_addItem_1 : decode cX3_addItem 1 = .ok (.getfield 42, 3) := by decide +kernel
theorem dX3_addItem_4 : decode cX3_addItem 4 = .ok (.aload_n 0, 1) := by decide +kernel
theorem dX3_addItem_5 : decode cX3_addItem 5 = .ok (.getfield 30, 3) := by decide +kernel
theorem dX3_addItem_8 : decode cX3_addItem 8 = .ok (.iload_n 1, 1) := by decide +kernel
theorem dX3_addItem_9 : decode cX3_addItem 9 = .ok (.iastore, 1) := by decide +kernel
theorem dX3_addItem_10 : decode cX3_addItem 10 = .ok (.aload_n 0, 1) := by decide +kernel
theorem dX3_addItem_11 : decode cX3_addItem 11 = .ok (.getfield 46, 3) := by decide +kernel
theorem dX3_addItem_14 : decode cX3_addItem 14 = .ok (.aload_n 0, 1) := by decide +kernel
theorem dX3_addItem_15 : decode cX3_addItem 15 = .ok (.getfield 30, 3) := by decide +kernel
theorem dX3_addItem_18 : decode cX3_addItem 18 = .ok (.iload_n 2, 1) := by decide +kernel
theorem dX3_addItem_19 : decode cX3_addItem 19 = .ok (.iastore, 1) := by decide +kernel
theorem dX3_addItem_20 : decode cX3_addItem 20 = .ok (.aload_n 0, 1) := by decide +kernel
theorem dX3_addItem_21 : decode cX3_addItem 21 = .ok (.getfield 52, 3) := by decide +kernel
theorem dX3_addItem_24 : decode cX3_addItem 24 = .ok (.aload_n 0, 1) := by decide +kernel
theorem dX3_addItem_25 : decode cX3_addItem 25 = .ok (.getfield 30, 3) := by decide +kernel
theorem dX3_addItem_28 : decode cX3_addItem 28 = .ok (.iconst (-1), 1) := by decide +kernel
theorem dX3_addItem_29 : decode cX3_addItem 29 = .ok (.iastore, 1) := by decide +kernel
theorem dX3_addItem_30 : decode cX3_addItem 30 = .ok (.aload_n 0, 1) := by decide +kernel
theorem dX3_addItem_31 : decode cX3_addItem 31 = .ok (.getfield 58, 3) := by decide +kernel
theorem dX3_addItem_34 : decode cX3_addItem 34 = .ok (.aload_n 0, 1) := by decide +kernel
theorem dX3_addItem_35 : decode cX3_addItem 35 = .ok (.getfield 30, 3) := by decide +kernel
theorem dX3_addItem_38 : decode cX3_addItem 38 = .ok (.iconst (-1), 1) := by decide +kernel
theorem dX3_addItem_39 : decode cX3_addItem 39 = .ok (.iastore, 1) := by decide +kernel
theorem dX3_addItem_40 : decode cX3_addItem 40 = .ok (.aload_n 0, 1) := by decide +kernel
theorem dX3_addItem_41 : decode cX3_addItem 41 = .ok (.dup, 1) := by decide +kernel
theorem dX3_addItem_42 : decode cX3_addItem 42 = .ok (.getfield 30, 3) := by decide +kernel
theorem dX3_addItem_45 : decode cX3_addItem 45 = .ok (.iconst 1, 1) := by decide +kernel
theorem dX3_addItem_46 : decode cX3_addItem 46 = .ok (.iadd, 1) := by decide +kernel
theorem dX3_addItem_47 : decode cX3_addItem 47 = .ok (.putfield 30, 3) := by decide +kernel
theorem dX3_addItem_50 : decode cX3_addItem 50 = .ok (.return_, 1) := by decide +kernel
theorem dX3_isItem_0 : decode cX3_isItem 0 = .ok (.iload_n 1, 1) := by decide +kernel
theorem dX3_isItem_1 : decode cX3_isItem 1 = .ok (.ifCond .lt 15, 3) := by decide +kernel
theorem dX3_isItem_4 : decode cX3_isItem 4 = .ok (.iload_n 1, 1) := by decide +kernel
theorem dX3_isItem_5 : decode cX3_isItem 5 = .ok (.aload_n 0, 1) := by decide +kernel
theorem dX3_isItem_6 : decode cX3_isItem 6 = .ok (.getfield 30, 3) := by decide +kernel
theorem dX3_isItem_9 : decode cX3_isItem 9 = .ok (.if_icmp .ge 7, 3) := by decide +kernel
theorem dX3_isItem_12 : decode cX3_isItem 12 = .ok (.iconst 1, 1) := by decide +kernel
theorem dX3_isItem_13 : decode cX3_isItem 13 = .ok (.goto 4, 3) := by decide +kernel
theorem dX3_isItem_16 : decode cX3_isItem 16 = .ok (.iconst 0, 1) := by decide +kernel
theorem dX3_isItem_17 : decode cX3_isItem 17 = .ok (.ireturn, 1) := by decide +kernel
theorem dX3_isStep_0 : decode cX3_isStep 0 = .ok (.aload_n 0, 1) := by decide +kernel
theorem dX3_isStep_1 : decode cX3_isStep 1 = .ok (.iload_n 1, 1) := by decide +kernel
theorem dX3_isStep_2 : decode cX3_isStep 2 = .ok (.invokevirtual 81, 3) := by decide +kernel
theorem dX3_isStep_5 : decode cX3_isStep 5 = .ok (.ifCond .eq 17, 3) := by decide +kernel
theorem dX3_isStep_8 : decode cX3_isStep 8 = .ok (.aload_n 0, 1) := by decide +kernel
theorem dX3_isStep_9 : decode cX3_isStep 9 = .ok (.getfield 42, 3) := by decide +kernel
theorem dX3_isStep_12 : decode cX3_isStep 12 = .ok (.iload_n 1, 1) := by decide +kernel
theorem dX3_isStep_13 : decode cX3_isStep 13 = .ok (.iaload, 1) := by decide +kernel
theorem dX3_isStep_14 : decode cX3_isStep 14 = .ok (.iconst (-1), 1) := by decide +kernel
theorem dX3_isStep_15 : decode cX3_isStep 15 = .ok (.if_icmp .eq 7, 3) := by decide +kernel
theorem dX3_isStep_18 : decode cX3_isStep 18 = .ok (.iconst 1, 1) := by decide +kernel
theorem dX3_isStep_19 : decode cX3_isStep 19 = .ok (.goto 4, 3) := by decide +kernel
theorem dX3_isStep_22 : decode cX3_isStep 22 = .ok (.iconst 0, 1) := by decide +kernel
theorem dX3_isStep_23 : decode cX3_isStep 23 = .ok (.ireturn, 1) := by decide +kernel
theorem dX3_isWord_0 : decode cX3_isWord 0 = .ok (.aload_n 0, 1) := by decide +kernel
theorem dX3_isWord_1 : decode cX3_isWord 1 = .ok (.iload_n 1, 1) := by decide +kernel
theorem dX3_isWord_2 : decode cX3_isWord 2 = .ok (.invokevirtual 81, 3) := by decide +kernel
theorem dX3_isWord_5 : decode cX3_isWord 5 = .ok (.ifCond .eq 17, 3) := by decide +kernel
theorem dX3_isWord_8 : decode cX3_isWord 8 = .ok (.aload_n 0, 1) := by decide +kernel
theorem dX3_isWord_9 : decode cX3_isWord 9 = .ok (.getfield 42, 3) := by decide +kernel
theorem dX3_isWord_12 : decode cX3_isWord 12 = .ok (.iload_n 1, 1) := by decide +kernel
theorem dX3_isWord_13 : decode cX3_isWord 13 = .ok (.iaload, 1) := by decide +kernel
theorem dX3_isWord_14 : decode cX3_isWord 14 = .ok (.iconst (-1), 1) := by decide +kernel
theorem dX3_isWord_15 : decode cX3_isWord 15 = .ok (.if_icmp .ne 7, 3) := by decide +kernel
theorem dX3_isWord_18 : decode cX3_isWord 18 = .ok (.iconst 1, 1) := by decide +kernel
theorem dX3_isWord_19 : decode cX3_isWord 19 = .ok (.goto 4, 3) := by decide +kernel
theorem dX3_isWord_22 : decode cX3_isWord 22 = .ok (.iconst 0, 1) := by decide +kernel
theorem dX3_isWord_23 : decode cX3_isWord 23 = .ok (.ireturn, 1) := by decide +kernel
theorem dX3_isFixed_0 : decode cX3_isFixed 0 = .ok (.aload_n 0, 1) := by decide +kernel
theorem dX3_isFixed_1 : decode cX3_isFixed 1 = .ok (.iload_n 1, 1) := by decide +kernel
theorem dX3_isFixed_2 : decode cX3_isFixed 2 = .ok (.invokevirtual 81, 3) := by decide +kernel
theorem dX3_isFixed_5 : decode cX3_isFixed 5 = .ok (.ifCond .eq 17, 3) := by decide +kernel
theorem dX3_isFixed_8 : decode cX3_isFixed 8 = .ok (.aload_n 0, 1) := by decide +kernel
theorem dX3_isFixed_9 : decode cX3_isFixed 9 = .ok (.getfield 46, 3) := by decide +kernel
theorem dX3_isFixed_12 : decode cX3_isFixed 12 = .ok (.iload_n 1, 1) := by decide +kernel
theorem dX3_isFixed_13 : decode cX3_isFixed 13 = .ok (.iaload, 1) := by decide +kernel
theorem dX3_isFixed_14 : decode cX3_isFixed 14 = .ok (.iconst (-1), 1) := by decide +kernel
theorem dX3_isFixed_15 : decode cX3_isFixed 15 = .ok (.if_icmp .eq 7, 3) := by decide +kernel
theorem dX3_isFixed_18 : decode cX3_isFixed 18 = .ok (.iconst 1, 1) := by decide +kernel
theorem dX3_isFixed_19 : decode cX3_isFixed 19 = .ok (.goto 4, 3) := by decide +kernel
theorem dX3_isFixed_22 : decode cX3_isFixed 22 = .ok (.iconst 0, 1) := by decide +kernel
theorem dX3_isFixed_23 : decode cX3_isFixed 23 = .ok (.ireturn, 1) := by decide +kernel
theorem dX3_isAddress_0 : decode cX3_isAddress 0 = .ok (.iload_n 1, 1) := by decide +kernel
theorem dX3_isAddress_1 : decode cX3_isAddress 1 = .ok (.ifCond .lt 15, 3) := by decide +kernel
theorem dX3_isAddress_4 : decode cX3_isAddress 4 = .ok (.iload_n 1, 1) := by decide +kernel
theorem dX3_isAddress_5 : decode cX3_isAddress 5 = .ok (.aload_n 0, 1) := by decide +kernel
theorem dX3_isAddress_6 : decode cX3_isAddress 6 = .ok (.invokevirtual 85, 3) := by decide +kernel
theorem dX3_isAddress_9 : decode cX3_isAddress 9 = .ok (.if_icmp .ge 7, 3) := by decide +kernel
theorem dX3_isAddress_12 : decode cX3_isAddress 12 = .ok (.iconst 1, 1) := by decide +kernel
theorem dX3_isAddress_13 : decode cX3_isAddress 13 = .ok (.goto 4, 3) := by decide +kernel
theorem dX3_isAddress_16 : decode cX3_isAddress 16 = .ok (.iconst 0, 1) := by decide +kernel
theorem dX3_isAddress_17 : decode cX3_isAddress 17 = .ok (.ireturn, 1) := by decide +kernel
theorem dX3_isToldAddress_0 : decode cX3_isToldAddress 0 = .ok (.iconst 0, 1) := by decide +kernel
theorem dX3_isToldAddress_1 : decode cX3_isToldAddress 1 = .ok (.istore_n 2, 1) := by decide +kernel
theorem dX3_isToldAddress_2 : decode cX3_isToldAddress 2 = .ok (.iload_n 2, 1) := by decide +kernel
theorem dX3_isToldAddress_3 : decode cX3_isToldAddress 3 = .ok (.aload_n 0, 1) := by decide +kernel
theorem dX3_isToldAddress_4 : decode cX3_isToldAddress 4 = .ok (.getfield 30, 3) := by decide +kernel
theorem dX3_isToldAddress_7 : decode cX3_isToldAddress 7 = .ok (.if_icmp .ge 21, 3) := by decide +kernel
theorem dX3_isToldAddress_10 : decode cX3_isToldAddress 10 = .ok (.aload_n 0, 1) := by decide +kernel
theorem dX3_isToldAddress_11 : decode cX3_isToldAddress 11 = .ok (.getfield 46, 3) := by decide +kernel
theorem dX3_isToldAddress_14 : decode cX3_isToldAddress 14 = .ok (.iload_n 2, 1) := by decide +kernel
theorem dX3_isToldAddress_15 : decode cX3_isToldAddress 15 = .ok (.iaload, 1) := by decide +kernel
theorem dX3_isToldAddress_16 : decode cX3_isToldAddress 16 = .ok (.iload_n 1, 1) := by decide +kernel
theorem dX3_isToldAddress_17 : decode cX3_isToldAddress 17 = .ok (.if_icmp .ne 5, 3) := by decide +kernel
theorem dX3_isToldAddress_20 : decode cX3_isToldAddress 20 = .ok (.iconst 1, 1) := by decide +kernel
theorem dX3_isToldAddress_21 : decode cX3_isToldAddress 21 = .ok (.ireturn, 1) := by decide +kernel
theorem dX3_isToldAddress_22 : decode cX3_isToldAddress 22 = .ok (.iinc 2 1, 3) := by decide +kernel
theorem dX3_isToldAddress_25 : decode cX3_isToldAddress 25 = .ok (.goto (-23), 3) := by decide +kernel
theorem dX3_isToldAddress_28 : decode cX3_isToldAddress 28 = .ok (.iconst 0, 1) := by decide +kernel
theorem dX3_isToldAddress_29 : decode cX3_isToldAddress 29 = .ok (.ireturn, 1) := by decide +kernel
theorem dX3_addresses_0 : decode cX3_addresses 0 = .ok (.aload_n 0, 1) := by decide +kernel
theorem dX3_addresses_1 : decode cX3_addresses 1 = .ok (.getfield 9, 3) := by decide +kernel
theorem dX3_addresses_4 : decode cX3_addresses 4 = .ok (.aload_n 0, 1) := by decide +kernel
theorem dX3_addresses_5 : decode cX3_addresses 5 = .ok (.getfield 15, 3) := by decide +kernel
theorem dX3_addresses_8 : decode cX3_addresses 8 = .ok (.imul, 1) := by decide +kernel
theorem dX3_addresses_9 : decode cX3_addresses 9 = .ok (.ireturn, 1) := by decide +kernel
theorem dX3_loose_0 : decode cX3_loose 0 = .ok (.iconst 0, 1) := by decide +kernel
theorem dX3_loose_1 : decode cX3_loose 1 = .ok (.istore_n 1, 1) := by decide +kernel
theorem dX3_loose_2 : decode cX3_loose 2 = .ok (.iconst 0, 1) := by decide +kernel
theorem dX3_loose_3 : decode cX3_loose 3 = .ok (.istore_n 2, 1) := by decide +kernel
theorem dX3_loose_4 : decode cX3_loose 4 = .ok (.iload_n 2, 1) := by decide +kernel
theorem dX3_loose_5 : decode cX3_loose 5 = .ok (.aload_n 0, 1) := by decide +kernel
theorem dX3_loose_6 : decode cX3_loose 6 = .ok (.getfield 30, 3) := by decide +kernel
theorem dX3_loose_9 : decode cX3_loose 9 = .ok (.if_icmp .ge 22, 3) := by decide +kernel
theorem dX3_loose_12 : decode cX3_loose 12 = .ok (.aload_n 0, 1) := by decide +kernel
theorem dX3_loose_13 : decode cX3_loose 13 = .ok (.getfield 46, 3) := by decide +kernel
theorem dX3_loose_16 : decode cX3_loose 16 = .ok (.iload_n 2, 1) := by decide +kernel
theorem dX3_loose_17 : decode cX3_loose 17 = .ok (.iaload, 1) := by decide +kernel
theorem dX3_loose_18 : decode cX3_loose 18 = .ok (.iconst (-1), 1) := by decide +kernel
theorem dX3_loose_19 : decode cX3_loose 19 = .ok (.if_icmp .ne 6, 3) := by decide +kernel
theorem dX3_loose_22 : decode cX3_loose 22 = .ok (.iinc 1 1, 3) := by decide +kernel
theorem dX3_loose_25 : decode cX3_loose 25 = .ok (.iinc 2 1, 3) := by decide +kernel
theorem dX3_loose_28 : decode cX3_loose 28 = .ok (.goto (-24), 3) := by decide +kernel
theorem dX3_loose_31 : decode cX3_loose 31 = .ok (.iload_n 1, 1) := by decide +kernel
theorem dX3_loose_32 : decode cX3_loose 32 = .ok (.ireturn, 1) := by decide +kernel
theorem dX3_wordFurther_0 : decode cX3_wordFurther 0 = .ok (.aload_n 0, 1) := by decide +kernel
theorem dX3_wordFurther_1 : decode cX3_wordFurther 1 = .ok (.iload_n 1, 1) := by decide +kernel
theorem dX3_wordFurther_2 : decode cX3_wordFurther 2 = .ok (.invokevirtual 89, 3) := by decide +kernel
theorem dX3_wordFurther_5 : decode cX3_wordFurther 5 = .ok (.ifCond .eq 15, 3) := by decide +kernel
theorem dX3_wordFurther_8 : decode cX3_wordFurther 8 = .ok (.aload_n 0, 1) := by decide +kernel
theorem dX3_wordFurther_9 : decode cX3_wordFurther 9 = .ok (.getfield 33, 3) := by decide +kernel
theorem dX3_wordFurther_12 : decode cX3_wordFurther 12 = .ok (.iconst 1, 1) := by decide +kernel
theorem dX3_wordFurther_13 : decode cX3_wordFurther 13 = .ok (.if_icmp .lt 7, 3) := by decide +kernel
theorem dX3_wordFurther_16 : decode cX3_wordFurther 16 = .ok (.iload_n 2, 1) := by decide +kernel
theorem dX3_wordFurther_17 : decode cX3_wordFurther 17 = .ok (.ifCond .ge 5, 3) := by decide +kernel
theorem dX3_wordFurther_20 : decode cX3_wordFurther 20 = .ok (.iload_n 1, 1) := by decide +kernel
theorem dX3_wordFurther_21 : decode cX3_wordFurther 21 = .ok (.ireturn, 1) := by decide +kernel
theorem dX3_wordFurther_22 : decode cX3_wordFurther 22 = .ok (.aload_n 0, 1) := by decide +kernel
theorem dX3_wordFurther_23 : decode cX3_wordFurther 23 = .ok (.getfield 64, 3) := by decide +kernel
theorem dX3_wordFurther_26 : decode cX3_wordFurther 26 = .ok (.iload_n 1, 1) := by decide +kernel
theorem dX3_wordFurther_27 : decode cX3_wordFurther 27 = .ok (.iaload, 1) := by decide +kernel
theorem dX3_wordFurther_28 : decode cX3_wordFurther 28 = .ok (.iload_n 2, 1) := by decide +kernel
theorem dX3_wordFurther_29 : decode cX3_wordFurther 29 = .ok (.iadd, 1) := by decide +kernel
theorem dX3_wordFurther_30 : decode cX3_wordFurther 30 = .ok (.aload_n 0, 1) := by decide +kernel
theorem dX3_wordFurther_31 : decode cX3_wordFurther 31 = .ok (.getfield 33, 3) := by decide +kernel
theorem dX3_wordFurther_34 : decode cX3_wordFurther 34 = .ok (.irem, 1) := by decide +kernel
theorem dX3_wordFurther_35 : decode cX3_wordFurther 35 = .ok (.istore_n 3, 1) := by decide +kernel
theorem dX3_wordFurther_36 : decode cX3_wordFurther 36 = .ok (.aload_n 0, 1) := by decide +kernel
theorem dX3_wordFurther_37 : decode cX3_wordFurther 37 = .ok (.getfield 61, 3) := by decide +kernel
theorem dX3_wordFurther_40 : decode cX3_wordFurther 40 = .ok (.iload_n 3, 1) := by decide +kernel
theorem dX3_wordFurther_41 : decode cX3_wordFurther 41 = .ok (.iaload, 1) := by decide +kernel
theorem dX3_wordFurther_42 : decode cX3_wordFurther 42 = .ok (.ireturn, 1) := by decide +kernel
theorem dX4_init_0 : decode cX4_init 0 = .ok (.aload_n 0, 1) := by decide +kernel
theorem dX4_init_1 : decode cX4_init 1 = .ok (.invokespecial 3, 3) := by decide +kernel
theorem dX4_init_4 : decode cX4_init 4 = .ok (.aload_n 0, 1) := by decide +kernel
theorem dX4_init_5 : decode cX4_init 5 = .ok (.bipush 20, 2) := by decide +kernel
theorem dX4_init_7 : decode cX4_init 7 = .ok (.newarray .int, 2) := by decide +kernel
theorem dX4_init_9 : decode cX4_init 9 = .ok (.putfield 9, 3) := by decide +kernel
theorem dX4_init_12 : decode cX4_init 12 = .ok (.aload_n 0, 1) := by decide +kernel
theorem dX4_init_13 : decode cX4_init 13 = .ok (.bipush 20, 2) := by decide +kernel
theorem dX4_init_15 : decode cX4_init 15 = .ok (.newarray .int, 2) := by decide +kernel
theorem dX4_init_17 : decode cX4_init 17 = .ok (.putfield 15, 3) := by decide +kernel
theorem dX4_init_20 : decode cX4_init 20 = .ok (.aload_n 0, 1) := by decide +kernel
theorem dX4_init_21 : decode cX4_init 21 = .ok (.bipush 20, 2) := by decide +kernel
theorem dX4_init_23 : decode cX4_init 23 = .ok (.newarray .int, 2) := by decide +kernel
theorem dX4_init_25 : decode cX4_init 25 = .ok (.putfield 18, 3) := by decide +kernel
theorem dX4_init_28 : decode cX4_init 28 = .ok (.aload_n 0, 1) := by decide +kernel
theorem dX4_init_29 : decode cX4_init 29 = .ok (.bipush 20, 2) := by decide +kernel
theorem dX4_init_31 : decode cX4_init 31 = .ok (.newarray .int, 2) := by decide +kernel
theorem dX4_init_33 : decode cX4_init 33 = .ok (.putfield 21, 3) := by decide +kernel
theorem dX4_init_36 : decode cX4_init 36 = .ok (.aload_n 0, 1) := by decide +kernel
theorem dX4_init_37 : decode cX4_init 37 = .ok (.bipush 20, 2) := by decide +kernel
theorem dX4_init_39 : decode cX4_init 39 = .ok (.newarray .int, 2) := by decide +kernel
theorem dX4_init_41 : decode cX4_init 41 = .ok (.putfield 24, 3) := by decide +kernel
theorem dX4_init_44 : decode cX4_init 44 = .ok (.aload_n 0, 1) := by decide +kernel
theorem dX4_init_45 : decode cX4_init 45 = .ok (.iconst 0, 1) := by decide +kernel
theorem dX4_init_46 : decode cX4_init 46 = .ok (.putfield 27, 3) := by decide +kernel
theorem dX4_init_49 : decode cX4_init 49 = .ok (.aload_n 0, 1) := by decide +kernel
theorem dX4_init_50 : decode cX4_init 50 = .ok (.iconst (-1), 1) := by decide +kernel
theorem dX4_init_51 : decode cX4_init 51 = .ok (.putfield 31, 3) := by decide +kernel
theorem dX4_init_54 : decode cX4_init 54 = .ok (.aload_n 0, 1) := by decide +kernel
theorem dX4_init_55 : decode cX4_init 55 = .ok (.new 34, 3) := by decide +kernel
theorem dX4_init_58 : decode cX4_init 58 = .ok (.dup, 1) := by decide +kernel
theorem dX4_init_59 : decode cX4_init 59 = .ok (.aload_n 1, 1) := by decide +kernel
theorem dX4_init_60 : decode cX4_init 60 = .ok (.invokespecial 36, 3) := by decide +kernel
theorem dX4_init_63 : decode cX4_init 63 = .ok (.putfield 39, 3) := by decide +kernel
theorem dX4_init_66 : decode cX4_init 66 = .ok (.return_, 1) := by decide +kernel
theorem dX4_readText_0 : decode cX4_readText 0 = .ok (.aload_n 0, 1) := by decide +kernel
theorem dX4_readText_1 : decode cX4_readText 1 = .ok (.iconst 0, 1) := by decide +kernel
theorem dX4_readText_2 : decode cX4_readText 2 = .ok (.putfield 27, 3) := by decide +kernel
theorem dX4_readText_5 : decode cX4_readText 5 = .ok (.aload_n 0, 1) := by decide +kernel
theorem dX4_readText_6 : decode cX4_readText 6 = .ok (.iconst (-1), 1) := by decide +kernel
theorem dX4_readText_7 : decode cX4_readText 7 = .ok (.putfield 31, 3) := by decide +kernel
theorem dX4_readText_10 : decode cX4_readText 10 = .ok (.aload_n 1, 1) := by decide +kernel
theorem dX4_readText_11 : decode cX4_readText 11 = .ok (.invokevirtual 43, 3) := by decide +kernel
theorem dX4_readText_14 : decode cX4_readText 14 = .ok (.aload_n 0, 1) := by decide +kernel
theorem dX4_readText_15 : decode cX4_readText 15 = .ok (.getfield 39, 3) := by decide +kernel
theorem dX4_readText_18 : decode cX4_readText 18 = .ok (.invokevirtual 48, 3) := by decide +kernel
theorem dX4_readText_21 : decode cX4_readText 21 = .ok (.iconst 0, 1) := by decide +kernel
theorem dX4_readText_22 : decode cX4_readText 22 = .ok (.istore_n 2, 1) := by decide +kernel
theorem dX4_readText_23 : decode cX4_readText 23 = .ok (.iload_n 2, 1) := by decide +kernel
theorem dX4_readText_24 : decode cX4_readText 24 = .ok (.bipush 21, 2) := by decide +kernel
theorem dX4_readText_26 : decode cX4_readText 26 = .ok (.if_icmp .gt 67, 3) := by decide +kernel
theorem dX4_readText_29 : decode cX4_readText 29 = .ok (.aload_n 0, 1) := by decide +kernel
theorem dX4_readText_30 : decode cX4_readText 30 = .ok (.invokevirtual 51, 3) := by decide +kernel
theorem dX4_readText_33 : decode cX4_readText 33 = .ok (.ifCond .eq 60, 3) := by decide +kernel
theorem dX4_readText_36 : decode cX4_readText 36 = .ok (.iload_n 2, 1) := by decide +kernel
theorem dX4_readText_37 : decode cX4_readText 37 = .ok (.ifCond .ne 11, 3) := by decide +kernel
theorem dX4_readText_40 : decode cX4_readText 40 = .ok (.aload_n 0, 1) := by decide +kernel
theorem dX4_readText_41 : decode cX4_readText 41 = .ok (.aload_n 1, 1) := by decide +kernel
theorem dX4_readText_42 : decode cX4_readText 42 = .ok (.invokevirtual 55, 3) := by decide +kernel
theorem dX4_readText_45 : decode cX4_readText 45 = .ok (.goto 28, 3) := by decide +kernel
theorem dX4_readText_48 : decode cX4_readText 48 = .ok (.aload_n 0, 1) := by decide +kernel
theorem dX4_readText_49 : decode cX4_readText 49 = .ok (.getfield 39, 3) := by decide +kernel
theorem dX4_readText_52 : decode cX4_readText 52 = .ok (.ldc 59, 2) := by decide +kernel
theorem dX4_readText_54 : decode cX4_readText 54 = .ok (.invokevirtual 61, 3) := by decide +kernel
theorem dX4_readText_57 : decode cX4_readText 57 = .ok (.ifCond .eq 11, 3) := by decide +kernel
theorem dX4_readText_60 : decode cX4_readText 60 = .ok (.aload_n 0, 1) := by decide +kernel
theorem dX4_readText_61 : decode cX4_readText 61 = .ok (.aload_n 1, 1) := by decide +kernel
theorem dX4_readText_62 : decode cX4_readText 62 = .ok (.invokevirtual 65, 3) := by decide +kernel
theorem dX4_readText_65 : decode cX4_readText 65 = .ok (.goto 8, 3) := by decide +kernel
theorem dX4_readText_68 : decode cX4_readText 68 = .ok (.aload_n 0, 1) := by decide +kernel
theorem dX4_readText_69 : decode cX4_readText 69 = .ok (.aload_n 1, 1) := by decide +kernel
theorem dX4_readText_70 : decode cX4_readText 70 = .ok (.invokevirtual 68, 3) := by decide +kernel
theorem dX4_readText_73 : decode cX4_readText 73 = .ok (.aload_n 0, 1) := by decide +kernel
theorem dX4_readText_74 : decode cX4_readText 74 = .ok (.invokevirtual 71, 3) := by decide +kernel
theorem dX4_readText_77 : decode cX4_readText 77 = .ok (.aload_n 1, 1) := by decide +kernel
theorem dX4_readText_78 : decode cX4_readText 78 = .ok (.dup, 1) := by decide +kernel
theorem dX4_readText_79 : decode cX4_readText 79 = .ok (.getfield 74, 3) := by decide +kernel
theorem dX4_readText_82 : decode cX4_readText 82 = .ok (.iconst 1, 1) := by decide +kernel
theorem dX4_readText_83 : decode cX4_readText 83 = .ok (.iadd, 1) := by decide +kernel
theorem dX4_readText_84 : decode cX4_readText 84 = .ok (.putfield 74, 3) := by decide +kernel
theorem dX4_readText_87 : decode cX4_readText 87 = .ok (.iinc 2 1, 3) := by decide +kernel
theorem dX4_readText_90 : decode cX4_readText 90 = .ok (.goto (-67), 3) := by decide +kernel
theorem dX4_readText_93 : decode cX4_readText 93 = .ok (.iconst 0, 1) := by decide +kernel
theorem dX4_readText_94 : decode cX4_readText 94 = .ok (.istore_n 2, 1) := by decide +kernel
theorem dX4_readText_95 : decode cX4_readText 95 = .ok (.iload_n 2, 1) := by decide +kernel
theorem dX4_readText_96 : decode cX4_readText 96 = .ok (.aload_n 1, 1) := by decide +kernel
theorem dX4_readText_97 : decode cX4_readText 97 = .ok (.getfield 77, 3) := by decide +kernel
theorem dX4_readText_100 : decode cX4_readText 100 = .ok (.if_icmp .ge 22, 3) := by decide +kernel
theorem dX4_readText_103 : decode cX4_readText 103 = .ok (.aload_n 0, 1) := by decide +kernel
theorem dX4_readText_104 : decode cX4_readText 104 = .ok (.getfield 27, 3) := by decide +kernel
theorem dX4_readText_107 : decode cX4_readText 107 = .ok (.ifCond .ne 15, 3) := by decide +kernel
theorem dX4_readText_110 : decode cX4_readText 110 = .ok (.aload_n 0, 1) := by decide +kernel
theorem dX4_readText_111 : decode cX4_readText 111 = .ok (.aload_n 1, 1) := by decide +kernel
theorem dX4_readText_112 : decode cX4_readText 112 = .ok (.iload_n 2, 1) := by decide +kernel
theorem dX4_readText_113 : decode cX4_readText 113 = .ok (.invokevirtual 80, 3) := by decide +kernel
theorem dX4_readText_116 : decode cX4_readText 116 = .ok (.iinc 2 1, 3) := by decide +kernel
theorem dX4_readText_119 : decode cX4_readText 119 = .ok (.goto (-24), 3) := by decide +kernel
theorem dX4_readText_122 : decode cX4_readText 122 = .ok (.return_, 1) := by decide +kernel
theorem dX4_goesOn_0 : decode cX4_goesOn 0 = .ok (.aload_n 0, 1) := by decide +kernel
theorem dX4_goesOn_1 : decode cX4_goesOn 1 = .ok (.getfield 27, 3) := by decide +kernel
theorem dX4_goesOn_4 : decode cX4_goesOn 4 = .ok (.ifCond .ne 17, 3) := by decide +kernel
theorem dX4_goesOn_7 : decode cX4_goesOn 7 = .ok (.aload_n 0, 1) := by decide +kernel
theorem dX4_goesOn_8 : decode cX4_goesOn 8 = .ok (.getfield 39, 3) := by decide +kernel
theorem dX4_goesOn_11 : decode cX4_goesOn 11 = .ok (.getfield 84, 3) := by decide +kernel
theorem dX4_goesOn_14 : decode cX4_goesOn 14 = .ok (.ifCond .eq 7, 3) := by decide +kernel
theorem dX4_goesOn_17 : decode cX4_goesOn 17 = .ok (.iconst 1, 1) := by decide +kernel
theorem dX4_goesOn_18 : decode cX4_goesOn 18 = .ok (.goto 4, 3) := by decide +kernel
theorem dX4_goesOn_21 : decode cX4_goesOn 21 = .ok (.iconst 0, 1) := by decide +kernel
theorem dX4_goesOn_22 : decode cX4_goesOn 22 = .ok (.ireturn, 1) := by decide +kernel
theorem dX4_readDrum_0 : decode cX4_readDrum 0 = .ok (.aload_n 0, 1) := by decide +kernel
theorem dX4_readDrum_1 : decode cX4_readDrum 1 = .ok (.ldc 87, 2) := by decide +kernel
theorem dX4_readDrum_3 : decode cX4_readDrum 3 = .ok (.invokevirtual 89, 3) := by decide +kernel
theorem dX4_readDrum_6 : decode cX4_readDrum 6 = .ok (.aload_n 1, 1) := by decide +kernel
theorem dX4_readDrum_7 : decode cX4_readDrum 7 = .ok (.aload_n 0, 1) := by decide +kernel
theorem dX4_readDrum_8 : decode cX4_readDrum 8 = .ok (.ldc 93, 2) := by decide +kernel
theorem dX4_readDrum_10 : decode cX4_readDrum 10 = .ok (.iconst 1, 1) := by decide +kernel
theorem dX4_readDrum_11 : decode cX4_readDrum 11 = .ok (.iconst 4, 1) := by decide +kernel
theorem dX4_readDrum_12 : decode cX4_readDrum 12 = .ok (.invokevirtual 95, 3) := by decide +kernel
theorem dX4_readDrum_15 : decode cX4_readDrum 15 = .ok (.putfield 99, 3) := by decide +kernel
theorem dX4_readDrum_18 : decode cX4_readDrum 18 = .ok (.aload_n 1, 1) := by decide +kernel
theorem dX4_readDrum_19 : decode cX4_readDrum 19 = .ok (.aload_n 0, 1) := by decide +kernel
theorem dX4_readDrum_20 : decode cX4_readDrum 20 = .ok (.ldc 101, 2) := by decide +kernel
theorem dX4_readDrum_22 : decode cX4_readDrum 22 = .ok (.iconst 2, 1) := by decide +kernel
theorem dX4_readDrum_23 : decode cX4_readDrum 23 = .ok (.bipush 12, 2) := by decide +kernel
theorem dX4_readDrum_25 : decode cX4_readDrum 25 = .ok (.invokevirtual 95, 3) := by decide +kernel
theorem dX4_readDrum_28 : decode cX4_readDrum 28 = .ok (.putfield 103, 3) := by decide +kernel
theorem dX4_readDrum_31 : decode cX4_readDrum 31 = .ok (.aload_n 1, 1) := by decide +kernel
theorem dX4_readDrum_32 : decode cX4_readDrum 32 = .ok (.aload_n 0, 1) := by decide +kernel
theorem dX4_readDrum_33 : decode cX4_readDrum 33 = .ok (.ldc 105, 2) := by decide +kernel
theorem dX4_readDrum_35 : decode cX4_readDrum 35 = .ok (.iconst 0, 1) := by decide +kernel
theorem dX4_readDrum_36 : decode cX4_readDrum 36 = .ok (.bipush 9, 2) := by decide +kernel
theorem dX4_readDrum_38 : decode cX4_readDrum 38 = .ok (.invokevirtual 95, 3) := by decide +kernel
theorem dX4_readDrum_41 : decode cX4_readDrum 41 = .ok (.putfield 107, 3) := by decide +kernel
theorem dX4_readDrum_44 : decode cX4_readDrum 44 = .ok (.aload_n 1, 1) := by decide +kernel
theorem dX4_readDrum_45 : decode cX4_readDrum 45 = .ok (.aload_n 0, 1) := by decide +kernel
theorem dX4_readDrum_46 : decode cX4_readDrum 46 = .ok (.aload_n 1, 1) := by decide +kernel
theorem dX4_readDrum_47 : decode cX4_readDrum 47 = .ok (.getfield 103, 3) := by decide +kernel
theorem dX4_readDrum_50 : decode cX4_readDrum 50 = .ok (.invokevirtual 109, 3) := by decide +kernel
theorem dX4_readDrum_53 : decode cX4_readDrum 53 = .ok (.putfield 113, 3) := by decide +kernel
theorem dX4_readDrum_56 : decode cX4_readDrum 56 = .ok (.aload_n 1, 1) := by decide +kernel
theorem dX4_readDrum_57 : decode cX4_readDrum 57 = .ok (.aload_n 0, 1) := by decide +kernel
theorem dX4_readDrum_58 : decode cX4_readDrum 58 = .ok (.ldc 116, 2) := by decide +kernel
theorem dX4_readDrum_60 : decode cX4_readDrum 60 = .ok (.iconst 0, 1) := by decide +kernel
theorem dX4_readDrum_61 : decode cX4_readDrum 61 = .ok (.bipush 9, 2) := by decide +kernel
theorem dX4_readDrum_63 : decode cX4_readDrum 63 = .ok (.invokevirtual 95, 3) := by decide +kernel
theorem dX4_readDrum_66 : decode cX4_readDrum 66 = .ok (.putfield 118, 3) := by decide +kernel
theorem dX4_readDrum_69 : decode cX4_readDrum 69 = .ok (.return_, 1) := by decide +kernel
theorem dX4_readWord_0 : decode cX4_readWord 0 = .ok (.aload_n 0, 1) := by decide +kernel
theorem dX4_readWord_1 : decode cX4_readWord 1 = .ok (.ldc 59, 2) := by decide +kernel
theorem dX4_readWord_3 : decode cX4_readWord 3 = .ok (.aload_n 1, 1) := by decide +kernel
theorem dX4_readWord_4 : decode cX4_readWord 4 = .ok (.getfield 120, 3) := by decide +kernel
theorem dX4_readWord_7 : decode cX4_readWord 7 = .ok (.bipush 8, 2) := by decide +kernel
theorem dX4_readWord_9 : decode cX4_readWord 9 = .ok (.if_icmp .ge 18, 3) := by decide +kernel
theorem dX4_readWord_12 : decode cX4_readWord 12 = .ok (.aload_n 1, 1) := by decide +kernel
theorem dX4_readWord_13 : decode cX4_readWord 13 = .ok (.getfield 77, 3) := by decide +kernel
theorem dX4_readWord_16 : decode cX4_readWord 16 = .ok (.aload_n 1, 1) := by decide +kernel
theorem dX4_readWord_17 : decode cX4_readWord 17 = .ok (.invokevirtual 123, 3) := by decide +kernel
theorem dX4_readWord_20 : decode cX4_readWord 20 = .ok (.if_icmp .ge 7, 3) := by decide +kernel
theorem dX4_readWord_23 : decode cX4_readWord 23 = .ok (.iconst 1, 1) := by decide +kernel
theorem dX4_readWord_24 : decode cX4_readWord 24 = .ok (.goto 4, 3) := by decide +kernel
theorem dX4_readWord_27 : decode cX4_readWord 27 = .ok (.iconst 0, 1) := by decide +kernel
theorem dX4_readWord_28 : decode cX4_readWord 28 = .ok (.invokevirtual 127, 3) := by decide +kernel
theorem dX4_readWord_31 : decode cX4_readWord 31 = .ok (.aload_n 0, 1) := by decide +kernel
theorem dX4_readWord_32 : decode cX4_readWord 32 = .ok (.aload_n 1, 1) := by decide +kernel
theorem dX4_readWord_33 : decode cX4_readWord 33 = .ok (.getfield 77, 3) := by decide +kernel
theorem dX4_readWord_36 : decode cX4_readWord 36 = .ok (.invokevirtual 131, 3) := by decide +kernel
theorem dX4_readWord_39 : decode cX4_readWord 39 = .ok (.aload_n 0, 1) := by decide +kernel
theorem dX4_readWord_40 : decode cX4_readWord 40 = .ok (.invokevirtual 135, 3) := by decide +kernel
theorem dX4_readWord_43 : decode cX4_readWord 43 = .ok (.istore_n 2, 1) := by decide +kernel
theorem dX4_readWord_44 : decode cX4_readWord 44 = .ok (.aload_n 0, 1) := by decide +kernel
theorem dX4_readWord_45 : decode cX4_readWord 45 = .ok (.iconst 0, 1) := by decide +kernel
theorem dX4_readWord_46 : decode cX4_readWord 46 = .ok (.sipush 9999, 3) := by decide +kernel
theorem dX4_readWord_49 : decode cX4_readWord 49 = .ok (.invokevirtual 138, 3) := by decide +kernel
theorem dX4_readWord_52 : decode cX4_readWord 52 = .ok (.istore_n 3, 1) := by decide +kernel
theorem dX4_readWord_53 : decode cX4_readWord 53 = .ok (.aload_n 0, 1) := by decide +kernel
theorem dX4_readWord_54 : decode cX4_readWord 54 = .ok (.aload_n 1, 1) := by decide +kernel
theorem dX4_readWord_55 : decode cX4_readWord 55 = .ok (.invokevirtual 142, 3) := by decide +kernel
theorem dX4_readWord_58 : decode cX4_readWord 58 = .ok (.istore 4, 2) := by decide +kernel
theorem dX4_readWord_60 : decode cX4_readWord 60 = .ok (.aload_n 0, 1) := by decide +kernel
theorem dX4_readWord_61 : decode cX4_readWord 61 = .ok (.getfield 27, 3) := by decide +kernel
theorem dX4_readWord_64 : decode cX4_readWord 64 = .ok (.ifCond .ne 19, 3) := by decide +kernel
theorem dX4_readWord_67 : decode cX4_readWord 67 = .ok (.aload_n 1, 1) := by decide +kernel
theorem dX4_readWord_68 : decode cX4_readWord 68 = .ok (.iload_n 2, 1) := by decide +kernel
theorem dX4_readWord_69 : decode cX4_readWord 69 = .ok (.ifCond .eq 8, 3) := by decide +kernel
theorem dX4_readWord_72 : decode cX4_readWord 72 = .ok (.iload_n 3, 1) := by decide +kernel
theorem dX4_readWord_73 : decode cX4_readWord 73 = .ok (.ineg, 1) := by decide +kernel
theorem dX4_readWord_74 : decode cX4_readWord 74 = .ok (.goto 4, 3) := by decide +kernel
theorem dX4_readWord_77 : decode cX4_readWord 77 = .ok (.iload_n 3, 1) := by decide +kernel
theorem dX4_readWord_78 : decode cX4_readWord 78 = .ok (.iload 4, 2) := by decide +kernel
theorem dX4_readWord_80 : decode cX4_readWord 80 = .ok (.invokevirtual 146, 3) := by decide +kernel
theorem dX4_readWord_83 : decode cX4_readWord 83 = .ok (.return_, 1) := by decide +kernel
theorem dX4_readStep_0 : decode cX4_readStep 0 = .ok (.aload_n 0, 1) := by decide +kernel
theorem dX4_readStep_1 : decode cX4_readStep 1 = .ok (.ldc 150, 2) := by decide +kernel
theorem dX4_readStep_3 : decode cX4_readStep 3 = .ok (.aload_n 1, 1) := by decide +kernel
theorem dX4_readStep_4 : decode cX4_readStep 4 = .ok (.getfield 152, 3) := by decide +kernel
theorem dX4_readStep_7 : decode cX4_readStep 7 = .ok (.bipush 12, 2) := by decide +kernel
theorem dX4_readStep_9 : decode cX4_readStep 9 = .ok (.if_icmp .ge 18, 3) := by decide +kernel
theorem dX4_readStep_12 : decode cX4_readStep 12 = .ok (.aload_n 1, 1) := by decide +kernel
theorem dX4_readStep_13 : decode cX4_readStep 13 = .ok (.getfield 77, 3) := by decide +kernel
theorem dX4_readStep_16 : decode cX4_readStep 16 = .ok (.aload_n 1, 1) := by decide +kernel
theorem dX4_readStep_17 : decode cX4_readStep 17 = .ok (.invokevirtual 123, 3) := by decide +kernel
theorem dX4_readStep_20 : decode cX4_readStep 20 = .ok (.if_icmp .ge 7, 3) := by decide +kernel
theorem dX4_readStep_23 : decode cX4_readStep 23 = .ok (.iconst 1, 1) := by decide +kernel
theorem dX4_readStep_24 : decode cX4_readStep 24 = .ok (.goto 4, 3) := by decide +kernel
theorem dX4_readStep_27 : decode cX4_readStep 27 = .ok (.iconst 0, 1) := by decide +kernel
theorem dX4_readStep_28 : decode cX4_readStep 28 = .ok (.invokevirtual 127, 3) := by decide +kernel
theorem dX4_readStep_31 : decode cX4_readStep 31 = .ok (.aload_n 0, 1) := by decide +kernel
theorem dX4_readStep_32 : decode cX4_readStep 32 = .ok (.aload_n 1, 1) := by decide +kernel
theorem dX4_readStep_33 : decode cX4_readStep 33 = .ok (.getfield 77, 3) := by decide +kernel
theorem dX4_readStep_36 : decode cX4_readStep 36 = .ok (.invokevirtual 131, 3) := by decide +kernel
theorem dX4_readStep_39 : decode cX4_readStep 39 = .ok (.aload_n 0, 1) := by decide +kernel
theorem dX4_readStep_40 : decode cX4_readStep 40 = .ok (.invokevirtual 155, 3) := by decide +kernel
theorem dX4_readStep_43 : decode cX4_readStep 43 = .ok (.istore_n 2, 1) := by decide +kernel
theorem dX4_readStep_44 : decode cX4_readStep 44 = .ok (.iconst 0, 1) := by decide +kernel
theorem dX4_readStep_45 : decode cX4_readStep 45 = .ok (.istore_n 3, 1) := by decide +kernel
theorem dX4_readStep_46 : decode cX4_readStep 46 = .ok (.iload_n 2, 1) := by decide +kernel
theorem dX4_readStep_47 : decode cX4_readStep 47 = .ok (.bipush 7, 2) := by decide +kernel
theorem dX4_readStep_49 : decode cX4_readStep 49 = .ok (.if_icmp .eq 53, 3) := by decide +kernel
theorem dX4_readStep_52 : decode cX4_readStep 52 = .ok (.aload_n 0, 1) := by decide +kernel
theorem dX4_readStep_53 : decode cX4_readStep 53 = .ok (.aload_n 1, 1) := by decide +kernel
theorem dX4_readStep_54 : decode cX4_readStep 54 = .ok (.getfield 77, 3) := by decide +kernel
theorem dX4_readStep_57 : decode cX4_readStep 57 = .ok (.aload_n 0, 1) := by decide +kernel
theorem dX4_readStep_58 : decode cX4_readStep 58 = .ok (.getfield 15, 3) := by decide +kernel
theorem dX4_readStep_61 : decode cX4_readStep 61 = .ok (.aload_n 0, 1) := by decide +kernel
theorem dX4_readStep_62 : decode cX4_readStep 62 = .ok (.getfield 18, 3) := by decide +kernel
theorem dX4_readStep_65 : decode cX4_readStep 65 = .ok (.invokevirtual 158, 3) := by decide +kernel
theorem dX4_readStep_68 : decode cX4_readStep 68 = .ok (.iload_n 2, 1) := by decide +kernel
theorem dX4_readStep_69 : decode cX4_readStep 69 = .ok (.bipush 6, 2) := by decide +kernel
theorem dX4_readStep_71 : decode cX4_readStep 71 = .ok (.if_icmp .ne 13, 3) := by decide +kernel
theorem dX4_readStep_74 : decode cX4_readStep 74 = .ok (.aload_n 0, 1) := by decide +kernel
theorem dX4_readStep_75 : decode cX4_readStep 75 = .ok (.iconst 1, 1) := by decide +kernel
theorem dX4_readStep_76 : decode cX4_readStep 76 = .ok (.bipush 7, 2) := by decide +kernel
theorem dX4_readStep_78 : decode cX4_readStep 78 = .ok (.invokevirtual 138, 3) := by decide +kernel
theorem dX4_readStep_81 : decode cX4_readStep 81 = .ok (.goto 4, 3) := by decide +kernel
theorem dX4_readStep_84 : decode cX4_readStep 84 = .ok (.iconst 0, 1) := by decide +kernel
theorem dX4_readStep_85 : decode cX4_readStep 85 = .ok (.istore_n 3, 1) := by decide +kernel
theorem dX4_readStep_86 : decode cX4_readStep 86 = .ok (.aload_n 0, 1) := by decide +kernel
theorem dX4_readStep_87 : decode cX4_readStep 87 = .ok (.aload_n 1, 1) := by decide +kernel
theorem dX4_readStep_88 : decode cX4_readStep 88 = .ok (.getfield 77, 3) := by decide +kernel
theorem dX4_readStep_91 : decode cX4_readStep 91 = .ok (.aload_n 0, 1) := by decide +kernel
theorem dX4_readStep_92 : decode cX4_readStep 92 = .ok (.getfield 21, 3) := by decide +kernel
theorem dX4_readStep_95 : decode cX4_readStep 95 = .ok (.aload_n 0, 1) := by decide +kernel
theorem dX4_readStep_96 : decode cX4_readStep 96 = .ok (.getfield 24, 3) := by decide +kernel
theorem dX4_readStep_99 : decode cX4_readStep 99 = .ok (.invokevirtual 158, 3) := by decide +kernel
theorem dX4_readStep_102 : decode cX4_readStep 102 = .ok (.aload_n 0, 1) := by decide +kernel
theorem dX4_readStep_103 : decode cX4_readStep 103 = .ok (.aload_n 1, 1) := by decide +kernel
theorem dX4_readStep_104 : decode cX4_readStep 104 = .ok (.invokevirtual 142, 3) := by decide +kernel
theorem dX4_readStep_107 : decode cX4_readStep 107 = .ok (.istore 4, 2) := by decide +kernel
theorem dX4_readStep_109 : decode cX4_readStep 109 = .ok (.aload_n 0, 1) := by decide +kernel
theorem dX4_readStep_110 : decode cX4_readStep 110 = .ok (.getfield 27, 3) := by decide +kernel
theorem dX4_readStep_113 : decode cX4_readStep 113 = .ok (.ifCond .ne 11, 3) := by decide +kernel
theorem dX4_readStep_116 : decode cX4_readStep 116 = .ok (.aload_n 1, 1) := by decide +kernel
theorem dX4_readStep_117 : decode cX4_readStep 117 = .ok (.iload_n 2, 1) := by decide +kernel
theorem dX4_readStep_118 : decode cX4_readStep 118 = .ok (.iload_n 3, 1) := by decide +kernel
theorem dX4_readStep_119 : decode cX4_readStep 119 = .ok (.iload 4, 2) := by decide +kernel
theorem dX4_readStep_121 : decode cX4_readStep 121 = .ok (.invokevirtual 162, 3) := by decide +kernel
theorem dX4_readStep_124 : decode cX4_readStep 124 = .ok (.return_, 1) := by decide +kernel
theorem dX4_linkStep_0 : decode cX4_linkStep 0 = .ok (.aload_n 1, 1) := by decide +kernel
theorem dX4_linkStep_1 : decode cX4_linkStep 1 = .ok (.getfield 166, 3) := by decide +kernel
theorem dX4_linkStep_4 : decode cX4_linkStep 4 = .ok (.iload_n 2, 1) := by decide +kernel
theorem dX4_linkStep_5 : decode cX4_linkStep 5 = .ok (.iaload, 1) := by decide +kernel
theorem dX4_linkStep_6 : decode cX4_linkStep 6 = .ok (.istore_n 3, 1) := by decide +kernel
theorem dX4_linkStep_7 : decode cX4_linkStep 7 = .ok (.iload_n 3, 1) := by decide +kernel
theorem dX4_linkStep_8 : decode cX4_linkStep 8 = .ok (.iconst (-1), 1) := by decide +kernel
theorem dX4_linkStep_9 : decode cX4_linkStep 9 = .ok (.if_icmp .eq 9, 3) := by decide +kernel
theorem dX4_linkStep_12 : decode cX4_linkStep 12 = .ok (.iload_n 3, 1) := by decide +kernel
theorem dX4_linkStep_13 : decode cX4_linkStep 13 = .ok (.bipush 7, 2) := by decide +kernel
theorem dX4_linkStep_15 : decode cX4_linkStep 15 = .ok (.if_icmp .ne 4, 3) := by decide +kernel
theorem dX4_linkStep_18 : decode cX4_linkStep 18 = .ok (.return_, 1) := by decide +kernel
theorem dX4_linkStep_19 : decode cX4_linkStep 19 = .ok (.aload_n 0, 1) := by decide +kernel
theorem dX4_linkStep_20 : decode cX4_linkStep 20 = .ok (.aload_n 0, 1) := by decide +kernel
theorem dX4_linkStep_21 : decode cX4_linkStep 21 = .ok (.getfield 15, 3) := by decide +kernel
theorem dX4_linkStep_24 : decode cX4_linkStep 24 = .ok (.iload_n 2, 1) := by decide +kernel
theorem dX4_linkStep_25 : decode cX4_linkStep 25 = .ok (.iaload, 1) := by decide +kernel
theorem dX4_linkStep_26 : decode cX4_linkStep 26 = .ok (.aload_n 1, 1) := by decide +kernel
theorem dX4_linkStep_27 : decode cX4_linkStep 27 = .ok (.getfield 77, 3) := by decide +kernel
theorem dX4_linkStep_30 : decode cX4_linkStep 30 = .ok (.invokevirtual 169, 3) := by decide +kernel
theorem dX4_linkStep_33 : decode cX4_linkStep 33 = .ok (.istore 4, 2) := by decide +kernel
theorem dX4_linkStep_35 : decode cX4_linkStep 35 = .ok (.aload_n 0, 1) := by decide +kernel
theorem dX4_linkStep_36 : decode cX4_linkStep 36 = .ok (.aload_n 0, 1) := by decide +kernel
theorem dX4_linkStep_37 : decode cX4_linkStep 37 = .ok (.getfield 21, 3) := by decide +kernel
theorem dX4_linkStep_40 : decode cX4_linkStep 40 = .ok (.iload_n 2, 1) := by decide +kernel
theorem dX4_linkStep_41 : decode cX4_linkStep 41 = .ok (.iaload, 1) := by decide +kernel
theorem dX4_linkStep_42 : decode cX4_linkStep 42 = .ok (.aload_n 1, 1) := by decide +kernel
theorem dX4_linkStep_43 : decode cX4_linkStep 43 = .ok (.getfield 77, 3) := by decide +kernel
theorem dX4_linkStep_46 : decode cX4_linkStep 46 = .ok (.invokevirtual 169, 3) := by decide +kernel
theorem dX4_linkStep_49 : decode cX4_linkStep 49 = .ok (.istore 5, 2) := by decide +kernel
theorem dX4_linkStep_51 : decode cX4_linkStep 51 = .ok (.aload_n 1, 1) := by decide +kernel
theorem dX4_linkStep_52 : decode cX4_linkStep 52 = .ok (.iload_n 3, 1) := by decide +kernel
theorem dX4_linkStep_53 : decode cX4_linkStep 53 = .ok (.iload 4, 2) := by decide +kernel
theorem dX4_linkStep_55 : decode cX4_linkStep 55 = .ok (.invokestatic 172, 3) := by decide +kernel
theorem dX4_linkStep_58 : decode cX4_linkStep 58 = .ok (.ifCond .ne 17, 3) := by decide +kernel
theorem dX4_linkStep_61 : decode cX4_linkStep 61 = .ok (.aload_n 0, 1) := by decide +kernel
theorem dX4_linkStep_62 : decode cX4_linkStep 62 = .ok (.iconst 4, 1) := by decide +kernel
theorem dX4_linkStep_63 : decode cX4_linkStep 63 = .ok (.aload_n 0, 1) := by decide +kernel
theorem dX4_linkStep_64 : decode cX4_linkStep 64 = .ok (.getfield 18, 3) := by decide +kernel
theorem dX4_linkStep_67 : decode cX4_linkStep 67 = .ok (.iload_n 2, 1) := by decide +kernel
theorem dX4_linkStep_68 : decode cX4_linkStep 68 = .ok (.iaload, 1) := by decide +kernel
theorem dX4_linkStep_69 : decode cX4_linkStep 69 = .ok (.invokevirtual 176, 3) := by decide +kernel
theorem dX4_linkStep_72 : decode cX4_linkStep 72 = .ok (.goto 42, 3) := by decide +kernel
theorem dX4_linkStep_75 : decode cX4_linkStep 75 = .ok (.aload_n 1, 1) := by decide +kernel
theorem dX4_linkStep_76 : decode cX4_linkStep 76 = .ok (.iload 5, 2) := by decide +kernel
theorem dX4_linkStep_78 : decode cX4_linkStep 78 = .ok (.invokevirtual 179, 3) := by decide +kernel
theorem dX4_linkStep_81 : decode cX4_linkStep 81 = .ok (.ifCond .ne 17, 3) := by decide +kernel
theorem dX4_linkStep_84 : decode cX4_linkStep 84 = .ok (.aload_n 0, 1) := by decide +kernel
theorem dX4_linkStep_85 : decode cX4_linkStep 85 = .ok (.iconst 4, 1) := by decide +kernel
theorem dX4_linkStep_86 : decode cX4_linkStep 86 = .ok (.aload_n 0, 1) := by decide +kernel
theorem dX4_linkStep_87 : decode cX4_linkStep 87 = .ok (.getfield 24, 3) := by decide +kernel
theorem dX4_linkStep_90 : decode cX4_linkStep 90 = .ok (.iload_n 2, 1) := by decide +kernel
theorem dX4_linkStep_91 : decode cX4_linkStep 91 = .ok (.iaload, 1) := by decide +kernel
theorem dX4_linkStep_92 : decode cX4_linkStep 92 = .ok (.invokevirtual 176, 3) := by decide +kernel
theorem dX4_linkStep_95 : decode cX4_linkStep 95 = .ok (.goto 19, 3) := by decide +kernel
theorem dX4_linkStep_98 : decode cX4_linkStep 98 = .ok (.aload_n 1, 1) := by decide +kernel
theorem dX4_linkStep_99 : decode cX4_linkStep 99 = .ok (.getfield 183, 3) := by decide +kernel
theorem dX4_linkStep_102 : decode cX4_linkStep 102 = .ok (.iload_n 2, 1) := by decide +kernel
theorem dX4_linkStep_103 : decode cX4_linkStep 103 = .ok (.iload 4, 2) := by decide +kernel
theorem dX4_linkStep_105 : decode cX4_linkStep 105 = .ok (.iastore, 1) := by decide +kernel
theorem dX4_linkStep_106 : decode cX4_linkStep 106 = .ok (.aload_n 1, 1) := by decide +kernel
theorem dX4_linkStep_107 : decode cX4_linkStep 107 = .ok (.getfield 186, 3) := by decide +kernel
theorem dX4_linkStep_110 : decode cX4_linkStep 110 = .ok (.iload_n 2, 1) := by decide +kernel
theorem dX4_linkStep_111 : decode cX4_linkStep 111 = .ok (.iload 5, 2) := by decide +kernel
theorem dX4_linkStep_113 : decode cX4_linkStep 113 = .ok (.iastore, 1) := by decide +kernel
theorem dX4_linkStep_114 : decode cX4_linkStep 114 = .ok (.return_, 1) := by decide +kernel
theorem dX4_mayBeFirst_0 : decode cX4_mayBeFirst 0 = .ok (.iload_n 1, 1) := by decide +kernel
theorem dX4_mayBeFirst_1 : decode cX4_mayBeFirst 1 = .ok (.iconst 5, 1) := by decide +kernel
theorem dX4_mayBeFirst_2 : decode cX4_mayBeFirst 2 = .ok (.if_icmp .ne 9, 3) := by decide +kernel
theorem dX4_mayBeFirst_5 : decode cX4_mayBeFirst 5 = .ok (.aload_n 0, 1) := by decide +kernel
theorem dX4_mayBeFirst_6 : decode cX4_mayBeFirst 6 = .ok (.iload_n 2, 1) := by decide +kernel
theorem dX4_mayBeFirst_7 : decode cX4_mayBeFirst 7 = .ok (.invokevirtual 179, 3) := by decide +kernel
theorem dX4_mayBeFirst_10 : decode cX4_mayBeFirst 10 = .ok (.ireturn, 1) := by decide +kernel
theorem dX4_mayBeFirst_11 : decode cX4_mayBeFirst 11 = .ok (.iload_n 1, 1) := by decide +kernel
theorem dX4_mayBeFirst_12 : decode cX4_mayBeFirst 12 = .ok (.bipush 6, 2) := by decide +kernel
theorem dX4_mayBeFirst_14 : decode cX4_mayBeFirst 14 = .ok (.if_icmp .ne 27, 3) := by decide +kernel
theorem dX4_mayBeFirst_17 : decode cX4_mayBeFirst 17 = .ok (.aload_n 0, 1) := by decide +kernel
theorem dX4_mayBeFirst_18 : decode cX4_mayBeFirst 18 = .ok (.iload_n 2, 1) := by decide +kernel
theorem dX4_mayBeFirst_19 : decode cX4_mayBeFirst 19 = .ok (.invokevirtual 179, 3) := by decide +kernel
theorem dX4_mayBeFirst_22 : decode cX4_mayBeFirst 22 = .ok (.ifCond .eq 17, 3) := by decide +kernel
theorem dX4_mayBeFirst_25 : decode cX4_mayBeFirst 25 = .ok (.aload_n 0, 1) := by decide +kernel
theorem dX4_mayBeFirst_26 : decode cX4_mayBeFirst 26 = .ok (.getfield 166, 3) := by decide +kernel
theorem dX4_mayBeFirst_29 : decode cX4_mayBeFirst 29 = .ok (.iload_n 2, 1) := by decide +kernel
theorem dX4_mayBeFirst_30 : decode cX4_mayBeFirst 30 = .ok (.iaload, 1) := by decide +kernel
theorem dX4_mayBeFirst_31 : decode cX4_mayBeFirst 31 = .ok (.iconst 4, 1) := by decide +kernel
theorem dX4_mayBeFirst_32 : decode cX4_mayBeFirst 32 = .ok (.if_icmp .gt 7, 3) := by decide +kernel
theorem dX4_mayBeFirst_35 : decode cX4_mayBeFirst 35 = .ok (.iconst 1, 1) := by decide +kernel
theorem dX4_mayBeFirst_36 : decode cX4_mayBeFirst 36 = .ok (.goto 4, 3) := by decide +kernel
theorem dX4_mayBeFirst_39 : decode cX4_mayBeFirst 39 = .ok (.iconst 0, 1) := by decide +kernel
theorem dX4_mayBeFirst_40 : decode cX4_mayBeFirst 40 = .ok (.ireturn, 1) := by decide +kernel
theorem dX4_mayBeFirst_41 : decode cX4_mayBeFirst 41 = .ok (.aload_n 0, 1) := by decide +kernel
theorem dX4_mayBeFirst_42 : decode cX4_mayBeFirst 42 = .ok (.iload_n 2, 1) := by decide +kernel
theorem dX4_mayBeFirst_43 : decode cX4_mayBeFirst 43 = .ok (.invokevirtual 189, 3) := by decide +kernel
theorem dX4_mayBeFirst_46 : decode cX4_mayBeFirst 46 = .ok (.ireturn, 1) := by decide +kernel
theorem dX4_itemNamed_0 : decode cX4_itemNamed 0 = .ok (.iconst 0, 1) := by decide +kernel
theorem dX4_itemNamed_1 : decode cX4_itemNamed 1 = .ok (.istore_n 3, 1) := by decide +kernel
theorem dX4_itemNamed_2 : decode cX4_itemNamed 2 = .ok (.iload_n 3, 1) := by decide +kernel
theorem dX4_itemNamed_3 : decode cX4_itemNamed 3 = .ok (.iload_n 2, 1) := by decide +kernel
theorem dX4_itemNamed_4 : decode cX4_itemNamed 4 = .ok (.if_icmp .ge 27, 3) := by decide +kernel
theorem dX4_itemNamed_7 : decode cX4_itemNamed 7 = .ok (.iload_n 3, 1) := by decide +kernel
theorem dX4_itemNamed_8 : decode cX4_itemNamed 8 = .ok (.bipush 20, 2) := by decide +kernel
theorem dX4_itemNamed_10 : decode cX4_itemNamed 10 = .ok (.if_icmp .ge 21, 3) := by decide +kernel
theorem dX4_itemNamed_13 : decode cX4_itemNamed 13 = .ok (.aload_n 0, 1) := by decide +kernel
theorem dX4_itemNamed_14 : decode cX4_itemNamed 14 = .ok (.getfield 9, 3) := by decide +kernel
theorem dX4_itemNamed_17 : decode cX4_itemNamed 17 = .ok (.iload_n 3, 1) := by decide +kernel
theorem dX4_itemNamed_18 : decode cX4_itemNamed 18 = .ok (.iaload, 1) := by decide +kernel
theorem dX4_itemNamed_19 : decode cX4_itemNamed 19 = .ok (.iload_n 1, 1) := by decide +kernel
theorem dX4_itemNamed_20 : decode cX4_itemNamed 20 = .ok (.if_icmp .ne 5, 3) := by decide +kernel
theorem dX4_itemNamed_23 : decode cX4_itemNamed 23 = .ok (.iload_n 3, 1) := by decide +kernel
theorem dX4_itemNamed_24 : decode cX4_itemNamed 24 = .ok (.ireturn, 1) := by decide +kernel
theorem dX4_itemNamed_25 : decode cX4_itemNamed 25 = .ok (.iinc 3 1, 3) := by decide +kernel
theorem dX4_itemNamed_28 : decode cX4_itemNamed 28 = .ok (.goto (-26), 3) := by decide +kernel
theorem dX4_itemNamed_31 : decode cX4_itemNamed 31 = .ok (.iconst (-1), 1) := by decide +kernel
theorem dX4_itemNamed_32 : decode cX4_itemNamed 32 = .ok (.ireturn, 1) := by decide +kernel
theorem dX4_fail_0 : decode cX4_fail 0 = .ok (.aload_n 0, 1) := by decide +kernel
theorem dX4_fail_1 : decode cX4_fail 1 = .ok (.iload_n 1, 1) := by decide +kernel
theorem dX4_fail_2 : decode cX4_fail 2 = .ok (.aload_n 0, 1) := by decide +kernel
theorem dX4_fail_3 : decode cX4_fail 3 = .ok (.getfield 39, 3) := by decide +kernel
theorem dX4_fail_6 : decode cX4_fail 6 = .ok (.getfield 192, 3) := by decide +kernel
theorem dX4_fail_9 : decode cX4_fail 9 = .ok (.invokevirtual 176, 3) := by decide +kernel
theorem dX4_fail_12 : decode cX4_fail 12 = .ok (.return_, 1) := by decide +kernel
theorem dX4_failAt_0 : decode cX4_failAt 0 = .ok (.aload_n 0, 1) := by decide +kernel
theorem dX4_failAt_1 : decode cX4_failAt 1 = .ok (.getfield 27, 3) := by decide +kernel
theorem dX4_failAt_4 : decode cX4_failAt 4 = .ok (.ifCond .ne 20, 3) := by decide +kernel
theorem dX4_failAt_7 : decode cX4_failAt 7 = .ok (.aload_n 0, 1) := by decide +kernel
theorem dX4_failAt_8 : decode cX4_failAt 8 = .ok (.iload_n 1, 1) := by decide +kernel
theorem dX4_failAt_9 : decode cX4_failAt 9 = .ok (.putfield 27, 3) := by decide +kernel
theorem dX4_failAt_12 : decode cX4_failAt 12 = .ok (.aload_n 0, 1) := by decide +kernel
theorem dX4_failAt_13 : decode cX4_failAt 13 = .ok (.iload_n 2, 1) := by decide +kernel
theorem dX4_failAt_14 : decode cX4_failAt 14 = .ok (.putfield 31, 3) := by decide +kernel
theorem dX4_failAt_17 : decode cX4_failAt 17 = .ok (.aload_n 0, 1) := by decide +kernel
theorem dX4_failAt_18 : decode cX4_failAt 18 = .ok (.getfield 39, 3) := by decide +kernel
theorem dX4_failAt_21 : decode cX4_failAt 21 = .ok (.invokevirtual 195, 3) := by decide +kernel
theorem dX4_failAt_24 : decode cX4_failAt 24 = .ok (.return_, 1) := by decide +kernel
theorem dX4_takeSemicolon_0 : decode cX4_takeSemicolon 0 = .ok (.aload_n 0, 1) := by decide +kernel
theorem dX4_takeSemicolon_1 : decode cX4_takeSemicolon 1 = .ok (.getfield 39, 3) := by decide +kernel
theorem dX4_takeSemicolon_4 : decode cX4_takeSemicolon 4 = .ok (.getfield 84, 3) := by decide +kernel
theorem dX4_takeSemicolon_7 : decode cX4_takeSemicolon 7 = .ok (.iconst 3, 1) := by decide +kernel
theorem dX4_takeSemicolon_8 : decode cX4_takeSemicolon 8 = .ok (.if_icmp .eq 8, 3) := by decide +kernel
theorem dX4_takeSemicolon_11 : decode cX4_takeSemicolon 11 = .ok (.aload_n 0, 1) := by decide +kernel
theorem dX4_takeSemicolon_12 : decode cX4_takeSemicolon 12 = .ok (.iconst 1, 1) := by decide +kernel
theorem dX4_takeSemicolon_13 : decode cX4_takeSemicolon 13 = .ok (.invokevirtual 198, 3) := by decide +kernel
theorem dX4_takeSemicolon_16 : decode cX4_takeSemicolon 16 = .ok (.aload_n 0, 1) := by decide +kernel
theorem dX4_takeSemicolon_17 : decode cX4_takeSemicolon 17 = .ok (.getfield 39, 3) := by decide +kernel
theorem dX4_takeSemicolon_20 : decode cX4_takeSemicolon 20 = .ok (.invokevirtual 201, 3) := by decide +kernel
theorem dX4_takeSemicolon_23 : decode cX4_takeSemicolon 23 = .ok (.return_, 1) := by decide +kernel
theorem dX4_takeWord_0 : decode cX4_takeWord 0 = .ok (.aload_n 0, 1) := by decide +kernel
theorem dX4_takeWord_1 : decode cX4_takeWord 1 = .ok (.getfield 39, 3) := by decide +kernel
theorem dX4_takeWord_4 : decode cX4_takeWord 4 = .ok (.aload_n 1, 1) := by decide +kernel
theorem dX4_takeWord_5 : decode cX4_takeWord 5 = .ok (.invokevirtual 61, 3) := by decide +kernel
theorem dX4_takeWord_8 : decode cX4_takeWord 8 = .ok (.ifCond .ne 8, 3) := by decide +kernel
theorem dX4_takeWord_11 : decode cX4_takeWord 11 = .ok (.aload_n 0, 1) := by decide +kernel
theorem dX4_takeWord_12 : decode cX4_takeWord 12 = .ok (.iconst 1, 1) := by decide +kernel
theorem dX4_takeWord_13 : decode cX4_takeWord 13 = .ok (.invokevirtual 198, 3) := by decide +kernel
theorem dX4_takeWord_16 : decode cX4_takeWord 16 = .ok (.aload_n 0, 1) := by decide +kernel
theorem dX4_takeWord_17 : decode cX4_takeWord 17 = .ok (.getfield 39, 3) := by decide +kernel
theorem dX4_takeWord_20 : decode cX4_takeWord 20 = .ok (.invokevirtual 201, 3) := by decide +kernel
theorem dX4_takeWord_23 : decode cX4_takeWord 23 = .ok (.return_, 1) := by decide +kernel
theorem dX4_takeItemWord_0 : decode cX4_takeItemWord 0 = .ok (.aload_n 0, 1) := by decide +kernel
theorem dX4_takeItemWord_1 : decode cX4_takeItemWord 1 = .ok (.getfield 39, 3) := by decide +kernel
theorem dX4_takeItemWord_4 : decode cX4_takeItemWord 4 = .ok (.aload_n 1, 1) := by decide +kernel
theorem dX4_takeItemWord_5 : decode cX4_takeItemWord 5 = .ok (.invokevirtual 61, 3) := by decide +kernel
theorem dX4_takeItemWord_8 : decode cX4_takeItemWord 8 = .ok (.ifCond .eq 12, 3) := by decide +kernel
theorem dX4_takeItemWord_11 : decode cX4_takeItemWord 11 = .ok (.iload_n 2, 1) := by decide +kernel
theorem dX4_takeItemWord_12 : decode cX4_takeItemWord 12 = .ok (.ifCond .ne 8, 3) := by decide +kernel
theorem dX4_takeItemWord_15 : decode cX4_takeItemWord 15 = .ok (.aload_n 0, 1) := by decide +kernel
theorem dX4_takeItemWord_16 : decode cX4_takeItemWord 16 = .ok (.iconst 3, 1) := by decide +kernel
theorem dX4_takeItemWord_17 : decode cX4_takeItemWord 17 = .ok (.invokevirtual 198, 3) := by decide +kernel
theorem dX4_takeItemWord_20 : decode cX4_takeItemWord 20 = .ok (.aload_n 0, 1) := by decide +kernel
theorem dX4_takeItemWord_21 : decode cX4_takeItemWord 21 = .ok (.aload_n 1, 1) := by decide +kernel
theorem dX4_takeItemWord_22 : decode cX4_takeItemWord 22 = .ok (.invokevirtual 89, 3) := by decide +kernel
theorem dX4_takeItemWord_25 : decode cX4_takeItemWord 25 = .ok (.return_, 1) := by decide +kernel
theorem dX4_takeItemName_0 : decode cX4_takeItemName 0 = .ok (.aload_n 0, 1) := by decide +kernel
theorem dX4_takeItemName_1 : decode cX4_takeItemName 1 = .ok (.getfield 39, 3) := by decide +kernel
theorem dX4_takeItemName_4 : decode cX4_takeItemName 4 = .ok (.getfield 84, 3) := by decide +kernel
theorem dX4_takeItemName_7 : decode cX4_takeItemName 7 = .ok (.iconst 1, 1) := by decide +kernel
theorem dX4_takeItemName_8 : decode cX4_takeItemName 8 = .ok (.if_icmp .eq 11, 3) := by decide +kernel
theorem dX4_takeItemName_11 : decode cX4_takeItemName 11 = .ok (.aload_n 0, 1) := by decide +kernel
theorem dX4_takeItemName_12 : decode cX4_takeItemName 12 = .ok (.iconst 1, 1) := by decide +kernel
theorem dX4_takeItemName_13 : decode cX4_takeItemName 13 = .ok (.invokevirtual 198, 3) := by decide +kernel
theorem dX4_takeItemName_16 : decode cX4_takeItemName 16 = .ok (.goto 38, 3) := by decide +kernel
theorem dX4_takeItemName_19 : decode cX4_takeItemName 19 = .ok (.aload_n 0, 1) := by decide +kernel
theorem dX4_takeItemName_20 : decode cX4_takeItemName 20 = .ok (.iload_n 1, 1) := by decide +kernel
theorem dX4_takeItemName_21 : decode cX4_takeItemName 21 = .ok (.invokevirtual 204, 3) := by decide +kernel
theorem dX4_takeItemName_24 : decode cX4_takeItemName 24 = .ok (.ifCond .ne 11, 3) := by decide +kernel
theorem dX4_takeItemName_27 : decode cX4_takeItemName 27 = .ok (.aload_n 0, 1) := by decide +kernel
theorem dX4_takeItemName_28 : decode cX4_takeItemName 28 = .ok (.iconst 2, 1) := by decide +kernel
theorem dX4_takeItemName_29 : decode cX4_takeItemName 29 = .ok (.invokevirtual 198, 3) := by decide +kernel
theorem dX4_takeItemName_32 : decode cX4_takeItemName 32 = .ok (.goto 22, 3) := by decide +kernel
theorem dX4_takeItemName_35 : decode cX4_takeItemName 35 = .ok (.iload_n 1, 1) := by decide +kernel
theorem dX4_takeItemName_36 : decode cX4_takeItemName 36 = .ok (.bipush 20, 2) := by decide +kernel
theorem dX4_takeItemName_38 : decode cX4_takeItemName 38 = .ok (.if_icmp .ge 16, 3) := by decide +kernel
theorem dX4_takeItemName_41 : decode cX4_takeItemName 41 = .ok (.aload_n 0, 1) := by decide +kernel
theorem dX4_takeItemName_42 : decode cX4_takeItemName 42 = .ok (.getfield 9, 3) := by decide +kernel
theorem dX4_takeItemName_45 : decode cX4_takeItemName 45 = .ok (.iload_n 1, 1) := by decide +kernel
theorem dX4_takeItemName_46 : decode cX4_takeItemName 46 = .ok (.aload_n 0, 1) := by decide +kernel
theorem dX4_takeItemName_47 : decode cX4_takeItemName 47 = .ok (.getfield 39, 3) := by decide +kernel
theorem dX4_takeItemName_50 : decode cX4_takeItemName 50 = .ok (.getfield 207, 3) := by decide +kernel
theorem dX4_takeItemName_53 : decode cX4_takeItemName 53 = .ok (.iastore, 1) := by decide +kernel
theorem dX4_takeItemName_54 : decode cX4_takeItemName 54 = .ok (.aload_n 0, 1) := by decide +kernel
theorem dX4_takeItemName_55 : decode cX4_takeItemName 55 = .ok (.getfield 39, 3) := by decide +kernel
theorem dX4_takeItemName_58 : decode cX4_takeItemName 58 = .ok (.invokevirtual 201, 3) := by decide +kernel
theorem dX4_takeItemName_61 : decode cX4_takeItemName 61 = .ok (.return_, 1) := by decide +kernel
theorem dX4_mayBeOwnName_0 : decode cX4_mayBeOwnName 0 = .ok (.aload_n 0, 1) := by decide +kernel
theorem dX4_mayBeOwnName_1 : decode cX4_mayBeOwnName 1 = .ok (.getfield 39, 3) := by decide +kernel
theorem dX4_mayBeOwnName_4 : decode cX4_mayBeOwnName 4 = .ok (.invokevirtual 210, 3) := by decide +kernel
theorem dX4_mayBeOwnName_7 : decode cX4_mayBeOwnName 7 = .ok (.ifCond .ne 14, 3) := by decide +kernel
theorem dX4_mayBeOwnName_10 : decode cX4_mayBeOwnName 10 = .ok (.aload_n 0, 1) := by decide +kernel
theorem dX4_mayBeOwnName_11 : decode cX4_mayBeOwnName 11 = .ok (.getfield 39, 3) := by decide +kernel
theorem dX4_mayBeOwnName_14 : decode cX4_mayBeOwnName 14 = .ok (.invokevirtual 213, 3) := by decide +kernel
theorem dX4_mayBeOwnName_17 : decode cX4_mayBeOwnName 17 = .ok (.iconst (-1), 1) := by decide +kernel
theorem dX4_mayBeOwnName_18 : decode cX4_mayBeOwnName 18 = .ok (.if_icmp .eq 7, 3) := by decide +kernel
theorem dX4_mayBeOwnName_21 : decode cX4_mayBeOwnName 21 = .ok (.iconst 1, 1) := by decide +kernel
theorem dX4_mayBeOwnName_22 : decode cX4_mayBeOwnName 22 = .ok (.goto 4, 3) := by decide +kernel
theorem dX4_mayBeOwnName_25 : decode cX4_mayBeOwnName 25 = .ok (.iconst 0, 1) := by decide +kernel
theorem dX4_mayBeOwnName_26 : decode cX4_mayBeOwnName 26 = .ok (.istore_n 2, 1) := by decide +kernel
theorem dX4_mayBeOwnName_27 : decode cX4_mayBeOwnName 27 = .ok (.aload_n 0, 1) := by decide +kernel
theorem dX4_mayBeOwnName_28 : decode cX4_mayBeOwnName 28 = .ok (.getfield 39, 3) := by decide +kernel
theorem dX4_mayBeOwnName_31 : decode cX4_mayBeOwnName 31 = .ok (.getfield 207, 3) := by decide +kernel
theorem dX4_mayBeOwnName_34 : decode cX4_mayBeOwnName 34 = .ok (.iconst (-1), 1) := by decide +kernel
theorem dX4_mayBeOwnName_35 : decode cX4_mayBeOwnName 35 = .ok (.if_icmp .eq 27, 3) := by decide +kernel
theorem dX4_mayBeOwnName_38 : decode cX4_mayBeOwnName 38 = .ok (.iload_n 2, 1) := by decide +kernel
theorem dX4_mayBeOwnName_39 : decode cX4_mayBeOwnName 39 = .ok (.ifCond .ne 23, 3) := by decide +kernel
theorem dX4_mayBeOwnName_42 : decode cX4_mayBeOwnName 42 = .ok (.aload_n 0, 1) := by decide +kernel
theorem dX4_mayBeOwnName_43 : decode cX4_mayBeOwnName 43 = .ok (.aload_n 0, 1) := by decide +kernel
theorem dX4_mayBeOwnName_44 : decode cX4_mayBeOwnName 44 = .ok (.getfield 39, 3) := by decide +kernel
theorem dX4_mayBeOwnName_47 : decode cX4_mayBeOwnName 47 = .ok (.getfield 207, 3) := by decide +kernel
theorem dX4_mayBeOwnName_50 : decode cX4_mayBeOwnName 50 = .ok (.iload_n 1, 1) := by decide +kernel
theorem dX4_mayBeOwnName_51 : decode cX4_mayBeOwnName 51 = .ok (.invokevirtual 169, 3) := by decide +kernel
theorem dX4_mayBeOwnName_54 : decode cX4_mayBeOwnName 54 = .ok (.iconst (-1), 1) := by decide +kernel
theorem dX4_mayBeOwnName_55 : decode cX4_mayBeOwnName 55 = .ok (.if_icmp .ne 7, 3) := by decide +kernel
theorem dX4_mayBeOwnName_58 : decode cX4_mayBeOwnName 58 = .ok (.iconst 1, 1) := by decide +kernel
theorem dX4_mayBeOwnName_59 : decode cX4_mayBeOwnName 59 = .ok (.goto 4, 3) := by decide +kernel
theorem dX4_mayBeOwnName_62 : decode cX4_mayBeOwnName 62 = .ok (.iconst 0, 1) := by decide +kernel
theorem dX4_mayBeOwnName_63 : decode cX4_mayBeOwnName 63 = .ok (.ireturn, 1) := by decide +kernel
theorem dX4_takeMinus_0 : decode cX4_takeMinus 0 = .ok (.aload_n 0, 1) := by decide +kernel
theorem dX4_takeMinus_1 : decode cX4_takeMinus 1 = .ok (.getfield 39, 3) := by decide +kernel
theorem dX4_takeMinus_4 : decode cX4_takeMinus 4 = .ok (.getfield 84, 3) := by decide +kernel
theorem dX4_takeMinus_7 : decode cX4_takeMinus 7 = .ok (.iconst 4, 1) := by decide +kernel
theorem dX4_takeMinus_8 : decode cX4_takeMinus 8 = .ok (.if_icmp .eq 5, 3) := by decide +kernel
theorem dX4_takeMinus_11 : decode cX4_takeMinus 11 = .ok (.iconst 0, 1) := by decide +kernel
theorem dX4_takeMinus_12 : decode cX4_takeMinus 12 = .ok (.ireturn, 1) := by decide +kernel
theorem dX4_takeMinus_13 : decode cX4_takeMinus 13 = .ok (.aload_n 0, 1) := by decide +kernel
theorem dX4_takeMinus_14 : decode cX4_takeMinus 14 = .ok (.getfield 39, 3) := by decide +kernel
theorem dX4_takeMinus_17 : decode cX4_takeMinus 17 = .ok (.invokevirtual 201, 3) := by decide +kernel
theorem dX4_takeMinus_20 : decode cX4_takeMinus 20 = .ok (.iconst 1, 1) := by decide +kernel
theorem dX4_takeMinus_21 : decode cX4_takeMinus 21 = .ok (.ireturn, 1) := by decide +kernel
theorem dX4_takeMeasure_0 : decode cX4_takeMeasure 0 = .ok (.aload_n 0, 1) := by decide +kernel
theorem dX4_takeMeasure_1 : decode cX4_takeMeasure 1 = .ok (.aload_n 1, 1) := by decide +kernel
theorem dX4_takeMeasure_2 : decode cX4_takeMeasure 2 = .ok (.invokevirtual 89, 3) := by decide +kernel
theorem dX4_takeMeasure_5 : decode cX4_takeMeasure 5 = .ok (.aload_n 0, 1) := by decide +kernel
theorem dX4_takeMeasure_6 : decode cX4_takeMeasure 6 = .ok (.iload_n 2, 1) := by decide +kernel
theorem dX4_takeMeasure_7 : decode cX4_takeMeasure 7 = .ok (.iload_n 3, 1) := by decide +kernel
theorem dX4_takeMeasure_8 : decode cX4_takeMeasure 8 = .ok (.invokevirtual 138, 3) := by decide +kernel
theorem dX4_takeMeasure_11 : decode cX4_takeMeasure 11 = .ok (.ireturn, 1) := by decide +kernel
theorem dX4_takeNumber_0 : decode cX4_takeNumber 0 = .ok (.aload_n 0, 1) := by decide +kernel
theorem dX4_takeNumber_1 : decode cX4_takeNumber 1 = .ok (.getfield 39, 3) := by decide +kernel
theorem dX4_takeNumber_4 : decode cX4_takeNumber 4 = .ok (.getfield 84, 3) := by decide +kernel
theorem dX4_takeNumber_7 : decode cX4_takeNumber 7 = .ok (.iconst 2, 1) := by decide +kernel
theorem dX4_takeNumber_8 : decode cX4_takeNumber 8 = .ok (.if_icmp .eq 11, 3) := by decide +kernel
theorem dX4_takeNumber_11 : decode cX4_takeNumber 11 = .ok (.aload_n 0, 1) := by decide +kernel
theorem dX4_takeNumber_12 : decode cX4_takeNumber 12 = .ok (.iconst 1, 1) := by decide +kernel
theorem dX4_takeNumber_13 : decode cX4_takeNumber 13 = .ok (.invokevirtual 198, 3) := by decide +kernel
theorem dX4_takeNumber_16 : decode cX4_takeNumber 16 = .ok (.goto 30, 3) := by decide +kernel
theorem dX4_takeNumber_19 : decode cX4_takeNumber 19 = .ok (.aload_n 0, 1) := by decide +kernel
theorem dX4_takeNumber_20 : decode cX4_takeNumber 20 = .ok (.getfield 39, 3) := by decide +kernel
theorem dX4_takeNumber_23 : decode cX4_takeNumber 23 = .ok (.getfield 216, 3) := by decide +kernel
theorem dX4_takeNumber_26 : decode cX4_takeNumber 26 = .ok (.iload_n 1, 1) := by decide +kernel
theorem dX4_takeNumber_27 : decode cX4_takeNumber 27 = .ok (.if_icmp .lt 14, 3) := by decide +kernel
theorem dX4_takeNumber_30 : decode cX4_takeNumber 30 = .ok (.aload_n 0, 1) := by decide +kernel
theorem dX4_takeNumber_31 : decode cX4_takeNumber 31 = .ok (.getfield 39, 3) := by decide +kernel
theorem dX4_takeNumber_34 : decode cX4_takeNumber 34 = .ok (.getfield 216, 3) := by decide +kernel
theorem dX4_takeNumber_37 : decode cX4_takeNumber 37 = .ok (.iload_n 2, 1) := by decide +kernel
theorem dX4_takeNumber_38 : decode cX4_takeNumber 38 = .ok (.if_icmp .le 8, 3) := by decide +kernel
theorem dX4_takeNumber_41 : decode cX4_takeNumber 41 = .ok (.aload_n 0, 1) := by decide +kernel
theorem dX4_takeNumber_42 : decode cX4_takeNumber 42 = .ok (.iconst 2, 1) := by decide +kernel
theorem dX4_takeNumber_43 : decode cX4_takeNumber 43 = .ok (.invokevirtual 198, 3) := by decide +kernel
theorem dX4_takeNumber_46 : decode cX4_takeNumber 46 = .ok (.aload_n 0, 1) := by decide +kernel
theorem dX4_takeNumber_47 : decode cX4_takeNumber 47 = .ok (.getfield 39, 3) := by decide +kernel
theorem dX4_takeNumber_50 : decode cX4_takeNumber 50 = .ok (.getfield 216, 3) := by decide +kernel
theorem dX4_takeNumber_53 : decode cX4_takeNumber 53 = .ok (.istore_n 3, 1) := by decide +kernel
theorem dX4_takeNumber_54 : decode cX4_takeNumber 54 = .ok (.aload_n 0, 1) := by decide +kernel
theorem dX4_takeNumber_55 : decode cX4_takeNumber 55 = .ok (.getfield 39, 3) := by decide +kernel
theorem dX4_takeNumber_58 : decode cX4_takeNumber 58 = .ok (.invokevirtual 201, 3) := by decide +kernel
theorem dX4_takeNumber_61 : decode cX4_takeNumber 61 = .ok (.iload_n 3, 1) := by decide +kernel
theorem dX4_takeNumber_62 : decode cX4_takeNumber 62 = .ok (.ireturn, 1) := by decide +kernel
theorem dX4_takeQuick_0 : decode cX4_takeQuick 0 = .ok (.aload_n 0, 1) := by decide +kernel
theorem dX4_takeQuick_1 : decode cX4_takeQuick 1 = .ok (.ldc 219, 2) := by decide +kernel
theorem dX4_takeQuick_3 : decode cX4_takeQuick 3 = .ok (.invokevirtual 89, 3) := by decide +kernel
theorem dX4_takeQuick_6 : decode cX4_takeQuick 6 = .ok (.aload_n 0, 1) := by decide +kernel
theorem dX4_takeQuick_7 : decode cX4_takeQuick 7 = .ok (.getfield 39, 3) := by decide +kernel
theorem dX4_takeQuick_10 : decode cX4_takeQuick 10 = .ok (.getfield 84, 3) := by decide +kernel
theorem dX4_takeQuick_13 : decode cX4_takeQuick 13 = .ok (.iconst 2, 1) := by decide +kernel
theorem dX4_takeQuick_14 : decode cX4_takeQuick 14 = .ok (.if_icmp .ne 22, 3) := by decide +kernel
theorem dX4_takeQuick_17 : decode cX4_takeQuick 17 = .ok (.aload_n 0, 1) := by decide +kernel
theorem dX4_takeQuick_18 : decode cX4_takeQuick 18 = .ok (.getfield 39, 3) := by decide +kernel
theorem dX4_takeQuick_21 : decode cX4_takeQuick 21 = .ok (.getfield 216, 3) := by decide +kernel
theorem dX4_takeQuick_24 : decode cX4_takeQuick 24 = .ok (.iload_n 1, 1) := by decide +kernel
theorem dX4_takeQuick_25 : decode cX4_takeQuick 25 = .ok (.invokestatic 220, 3) := by decide +kernel
theorem dX4_takeQuick_28 : decode cX4_takeQuick 28 = .ok (.ifCond .ne 8, 3) := by decide +kernel
theorem dX4_takeQuick_31 : decode cX4_takeQuick 31 = .ok (.aload_n 0, 1) := by decide +kernel
theorem dX4_takeQuick_32 : decode cX4_takeQuick 32 = .ok (.iconst 2, 1) := by decide +kernel
theorem dX4_takeQuick_33 : decode cX4_takeQuick 33 = .ok (.invokevirtual 198, 3) := by decide +kernel
theorem dX4_takeQuick_36 : decode cX4_takeQuick 36 = .ok (.aload_n 0, 1) := by decide +kernel
theorem dX4_takeQuick_37 : decode cX4_takeQuick 37 = .ok (.iconst 0, 1) := by decide +kernel
theorem dX4_takeQuick_38 : decode cX4_takeQuick 38 = .ok (.bipush 12, 2) := by decide +kernel
theorem dX4_takeQuick_40 : decode cX4_takeQuick 40 = .ok (.invokevirtual 138, 3) := by decide +kernel
theorem dX4_takeQuick_43 : decode cX4_takeQuick 43 = .ok (.ireturn, 1) := by decide +kernel
theorem dX4_takeOperation_0 : decode cX4_takeOperation 0 = .ok (.aload_n 0, 1) := by decide +kernel
theorem dX4_takeOperation_1 : decode cX4_takeOperation 1 = .ok (.getfield 39, 3) := by decide +kernel
theorem dX4_takeOperation_4 : decode cX4_takeOperation 4 = .ok (.invokevirtual 213, 3) := by decide +kernel
theorem dX4_takeOperation_7 : decode cX4_takeOperation 7 = .ok (.istore_n 1, 1) := by decide +kernel
theorem dX4_takeOperation_8 : decode cX4_takeOperation 8 = .ok (.iload_n 1, 1) := by decide +kernel
theorem dX4_takeOperation_9 : decode cX4_takeOperation 9 = .ok (.iconst (-1), 1) := by decide +kernel
theorem dX4_takeOperation_10 : decode cX4_takeOperation 10 = .ok (.if_icmp .ne 8, 3) := by decide +kernel
theorem dX4_takeOperation_13 : decode cX4_takeOperation 13 = .ok (.aload_n 0, 1) := by decide +kernel
theorem dX4_takeOperation_14 : decode cX4_takeOperation 14 = .ok (.iconst 1, 1) := by decide +kernel
theorem dX4_takeOperation_15 : decode cX4_takeOperation 15 = .ok (.invokevirtual 198, 3) := by decide +kernel
theorem dX4_takeOperation_18 : decode cX4_takeOperation 18 = .ok (.aload_n 0, 1) := by decide +kernel
theorem dX4_takeOperation_19 : decode cX4_takeOperation 19 = .ok (.getfield 39, 3) := by decide +kernel
theorem dX4_takeOperation_22 : decode cX4_takeOperation 22 = .ok (.invokevirtual 201, 3) := by decide +kernel
theorem dX4_takeOperation_25 : decode cX4_takeOperation 25 = .ok (.iload_n 1, 1) := by decide +kernel
theorem dX4_takeOperation_26 : decode cX4_takeOperation 26 = .ok (.ireturn, 1) := by decide +kernel
theorem dX4_takeReference_0 : decode cX4_takeReference 0 = .ok (.aload_n 0, 1) := by decide +kernel
theorem dX4_takeReference_1 : decode cX4_takeReference 1 = .ok (.getfield 39, 3) := by decide +kernel
theorem dX4_takeReference_4 : decode cX4_takeReference 4 = .ok (.getfield 84, 3) := by decide +kernel
theorem dX4_takeReference_7 : decode cX4_takeReference 7 = .ok (.iconst 1, 1) := by decide +kernel
theorem dX4_takeReference_8 : decode cX4_takeReference 8 = .ok (.if_icmp .eq 11, 3) := by decide +kernel
theorem dX4_takeReference_11 : decode cX4_takeReference 11 = .ok (.aload_n 0, 1) := by decide +kernel
theorem dX4_takeReference_12 : decode cX4_takeReference 12 = .ok (.iconst 1, 1) := by decide +kernel
theorem dX4_takeReference_13 : decode cX4_takeReference 13 = .ok (.invokevirtual 198, 3) := by decide +kernel
theorem dX4_takeReference_16 : decode cX4_takeReference 16 = .ok (.goto 29, 3) := by decide +kernel
theorem dX4_takeReference_19 : decode cX4_takeReference 19 = .ok (.iload_n 1, 1) := by decide +kernel
theorem dX4_takeReference_20 : decode cX4_takeReference 20 = .ok (.bipush 20, 2) := by decide +kernel
theorem dX4_takeReference_22 : decode cX4_takeReference 22 = .ok (.if_icmp .ge 23, 3) := by decide +kernel
theorem dX4_takeReference_25 : decode cX4_takeReference 25 = .ok (.aload_n 2, 1) := by decide +kernel
theorem dX4_takeReference_26 : decode cX4_takeReference 26 = .ok (.iload_n 1, 1) := by decide +kernel
theorem dX4_takeReference_27 : decode cX4_takeReference 27 = .ok (.aload_n 0, 1) := by decide +kernel
theorem dX4_takeReference_28 : decode cX4_takeReference 28 = .ok (.getfield 39, 3) := by decide +kernel
theorem dX4_takeReference_31 : decode cX4_takeReference 31 = .ok (.getfield 207, 3) := by decide +kernel
theorem dX4_takeReference_34 : decode cX4_takeReference 34 = .ok (.iastore, 1) := by decide +kernel
theorem dX4_takeReference_35 : decode cX4_takeReference 35 = .ok (.aload_n 3, 1) := by decide +kernel
theorem dX4_takeReference_36 : decode cX4_takeReference 36 = .ok (.iload_n 1, 1) := by decide +kernel
theorem dX4_takeReference_37 : decode cX4_takeReference 37 = .ok (.aload_n 0, 1) := by decide +kernel
theorem dX4_takeReference_38 : decode cX4_takeReference 38 = .ok (.getfield 39, 3) := by decide +kernel
theorem dX4_takeReference_41 : decode cX4_takeReference 41 = .ok (.getfield 192, 3) := by decide +kernel
theorem dX4_takeReference_44 : decode cX4_takeReference 44 = .ok (.iastore, 1) := by decide +kernel
theorem dX4_takeReference_45 : decode cX4_takeReference 45 = .ok (.aload_n 0, 1) := by decide +kernel
theorem dX4_takeReference_46 : decode cX4_takeReference 46 = .ok (.getfield 39, 3) := by decide +kernel
theorem dX4_takeReference_49 : decode cX4_takeReference 49 = .ok (.invokevirtual 201, 3) := by decide +kernel
theorem dX4_takeReference_52 : decode cX4_takeReference 52 = .ok (.return_, 1) := by decide +kernel
theorem dX4_takeAddress_0 : decode cX4_takeAddress 0 = .ok (.aload_n 0, 1) := by decide +kernel
theorem dX4_takeAddress_1 : decode cX4_takeAddress 1 = .ok (.getfield 39, 3) := by decide +kernel
theorem dX4_takeAddress_4 : decode cX4_takeAddress 4 = .ok (.ldc 224, 2) := by decide +kernel
theorem dX4_takeAddress_6 : decode cX4_takeAddress 6 = .ok (.invokevirtual 61, 3) := by decide +kernel
theorem dX4_takeAddress_9 : decode cX4_takeAddress 9 = .ok (.ifCond .ne 5, 3) := by decide +kernel
theorem dX4_takeAddress_12 : decode cX4_takeAddress 12 = .ok (.iconst (-1), 1) := by decide +kernel
theorem dX4_takeAddress_13 : decode cX4_takeAddress 13 = .ok (.ireturn, 1) := by decide +kernel
theorem dX4_takeAddress_14 : decode cX4_takeAddress 14 = .ok (.aload_n 0, 1) := by decide +kernel
theorem dX4_takeAddress_15 : decode cX4_takeAddress 15 = .ok (.getfield 39, 3) := by decide +kernel
theorem dX4_takeAddress_18 : decode cX4_takeAddress 18 = .ok (.invokevirtual 201, 3) := by decide +kernel
theorem dX4_takeAddress_21 : decode cX4_takeAddress 21 = .ok (.aload_n 0, 1) := by decide +kernel
theorem dX4_takeAddress_22 : decode cX4_takeAddress 22 = .ok (.getfield 39, 3) := by decide +kernel
theorem dX4_takeAddress_25 : decode cX4_takeAddress 25 = .ok (.getfield 84, 3) := by decide +kernel
theorem dX4_takeAddress_28 : decode cX4_takeAddress 28 = .ok (.iconst 2, 1) := by decide +kernel
theorem dX4_takeAddress_29 : decode cX4_takeAddress 29 = .ok (.if_icmp .ne 22, 3) := by decide +kernel
theorem dX4_takeAddress_32 : decode cX4_takeAddress 32 = .ok (.aload_n 1, 1) := by decide +kernel
theorem dX4_takeAddress_33 : decode cX4_takeAddress 33 = .ok (.aload_n 0, 1) := by decide +kernel
theorem dX4_takeAddress_34 : decode cX4_takeAddress 34 = .ok (.getfield 39, 3) := by decide +kernel
theorem dX4_takeAddress_37 : decode cX4_takeAddress 37 = .ok (.getfield 216, 3) := by decide +kernel
theorem dX4_takeAddress_40 : decode cX4_takeAddress 40 = .ok (.invokevirtual 226, 3) := by decide +kernel
theorem dX4_takeAddress_43 : decode cX4_takeAddress 43 = .ok (.ifCond .eq 8, 3) := by decide +kernel
theorem dX4_takeAddress_46 : decode cX4_takeAddress 46 = .ok (.aload_n 0, 1) := by decide +kernel
theorem dX4_takeAddress_47 : decode cX4_takeAddress 47 = .ok (.iconst 2, 1) := by decide +kernel
theorem dX4_takeAddress_48 : decode cX4_takeAddress 48 = .ok (.invokevirtual 198, 3) := by decide +kernel
theorem dX4_takeAddress_51 : decode cX4_takeAddress 51 = .ok (.aload_n 0, 1) := by decide +kernel
theorem dX4_takeAddress_52 : decode cX4_takeAddress 52 = .ok (.iconst 0, 1) := by decide +kernel
theorem dX4_takeAddress_53 : decode cX4_takeAddress 53 = .ok (.aload_n 1, 1) := by decide +kernel
theorem dX4_takeAddress_54 : decode cX4_takeAddress 54 = .ok (.invokevirtual 123, 3) := by decide +kernel
theorem dX4_takeAddress_57 : decode cX4_takeAddress 57 = .ok (.iconst 1, 1) := by decide +kernel
theorem dX4_takeAddress_58 : decode cX4_takeAddress 58 = .ok (.isub, 1) := by decide +kernel
theorem dX4_takeAddress_59 : decode cX4_takeAddress 59 = .ok (.invokevirtual 138, 3) := by decide +kernel
theorem dX4_takeAddress_62 : decode cX4_takeAddress 62 = .ok (.ireturn, 1) := by decide +kernel
theorem dX5_init_0 : decode cX5_init 0 = .ok (.aload_n 0, 1) := by decide +kernel
theorem dX5_init_1 : decode cX5_init 1 = .ok (.invokespecial 3, 3) := by decide +kernel
theorem dX5_init_4 : decode cX5_init 4 = .ok (.aload_n 0, 1) := by decide +kernel
theorem dX5_init_5 : decode cX5_init 5 = .ok (.iconst 4, 1) := by decide +kernel
theorem dX5_init_6 : decode cX5_init 6 = .ok (.newarray .int, 2) := by decide +kernel
theorem dX5_init_8 : decode cX5_init 8 = .ok (.putfield 9, 3) := by decide +kernel
theorem dX5_init_11 : decode cX5_init 11 = .ok (.aload_n 0, 1) := by decide +kernel
theorem dX5_init_12 : decode cX5_init 12 = .ok (.iconst 0, 1) := by decide +kernel
theorem dX5_init_13 : decode cX5_init 13 = .ok (.putfield 15, 3) := by decide +kernel
theorem dX5_init_16 : decode cX5_init 16 = .ok (.aload_n 0, 1) := by decide +kernel
theorem dX5_init_17 : decode cX5_init 17 = .ok (.bipush 20, 2) := by decide +kernel
theorem dX5_init_19 : decode cX5_init 19 = .ok (.newarray .int, 2) := by decide +kernel
theorem dX5_init_21 : decode cX5_init 21 = .ok (.putfield 19, 3) := by decide +kernel
theorem dX5_init_24 : decode cX5_init 24 = .ok (.aload_n 0, 1) := by decide +kernel
theorem dX5_init_25 : decode cX5_init 25 = .ok (.bipush 48, 2) := by decide +kernel
theorem dX5_init_27 : decode cX5_init 27 = .ok (.newarray .boolean, 2) := by decide +kernel
theorem dX5_init_29 : decode cX5_init 29 = .ok (.putfield 22, 3) := by decide +kernel
theorem dX5_init_32 : decode cX5_init 32 = .ok (.aload_n 0, 1) := by decide +kernel
theorem dX5_init_33 : decode cX5_init 33 = .ok (.bipush 48, 2) := by decide +kernel
theorem dX5_init_35 : decode cX5_init 35 = .ok (.newarray .int, 2) := by decide +kernel
theorem dX5_init_37 : decode cX5_init 37 = .ok (.putfield 26, 3) := by decide +kernel
theorem dX5_init_40 : decode cX5_init 40 = .ok (.aload_n 0, 1) := by decide +kernel
theorem dX5_init_41 : decode cX5_init 41 = .ok (.bipush 24, 2) := by decide +kernel
theorem dX5_init_43 : decode cX5_init 43 = .ok (.newarray .int, 2) := by decide +kernel
theorem dX5_init_45 : decode cX5_init 45 = .ok (.putfield 29, 3) := by decide +kernel
theorem dX5_init_48 : decode cX5_init 48 = .ok (.aload_n 0, 1) := by decide +kernel
theorem dX5_init_49 : decode cX5_init 49 = .ok (.iconst 0, 1) := by decide +kernel
theorem dX5_init_50 : decode cX5_init 50 = .ok (.putfield 32, 3) := by decide +kernel
theorem dX5_init_53 : decode cX5_init 53 = .ok (.aload_n 0, 1) := by decide +kernel
theorem dX5_init_54 : decode cX5_init 54 = .ok (.iconst 0, 1) := by decide +kernel
theorem dX5_init_55 : decode cX5_init 55 = .ok (.putfield 36, 3) := by decide +kernel
theorem dX5_init_58 : decode cX5_init 58 = .ok (.aload_n 0, 1) := by decide +kernel
theorem dX5_init_59 : decode cX5_init 59 = .ok (.iconst 0, 1) := by decide +kernel
theorem dX5_init_60 : decode cX5_init 60 = .ok (.putfield 39, 3) := by decide +kernel
theorem dX5_init_63 : decode cX5_init 63 = .ok (.aload_n 0, 1) := by decide +kernel
theorem dX5_init_64 : decode cX5_init 64 = .ok (.lconst 0, 1) := by decide +kernel
theorem dX5_init_65 : decode cX5_init 65 = .ok (.putfield 42, 3) := by decide +kernel
theorem dX5_init_68 : decode cX5_init 68 = .ok (.aload_n 0, 1) := by decide +kernel
theorem dX5_init_69 : decode cX5_init 69 = .ok (.bipush 20, 2) := by decide +kernel
theorem dX5_init_71 : decode cX5_init 71 = .ok (.newarray .int, 2) := by decide +kernel
theorem dX5_init_73 : decode cX5_init 73 = .ok (.putfield 46, 3) := by decide +kernel
theorem dX5_init_76 : decode cX5_init 76 = .ok (.aload_n 0, 1) := by decide +kernel
theorem dX5_init_77 : decode cX5_init 77 = .ok (.aload_n 1, 1) := by decide +kernel
theorem dX5_init_78 : decode cX5_init 78 = .ok (.putfield 49, 3) := by decide +kernel
theorem dX5_init_81 : decode cX5_init 81 = .ok (.aload_n 0, 1) := by decide +kernel
theorem dX5_init_82 : decode cX5_init 82 = .ok (.aload_n 2, 1) := by decide +kernel
theorem dX5_init_83 : decode cX5_init 83 = .ok (.putfield 53, 3) := by decide +kernel
theorem dX5_init_86 : decode cX5_init 86 = .ok (.return_, 1) := by decide +kernel
theorem dX5_forget_0 : decode cX5_forget 0 = .ok (.aload_n 0, 1) := by decide +kernel
theorem dX5_forget_1 : decode cX5_forget 1 = .ok (.iconst 0, 1) := by decide +kernel
theorem dX5_forget_2 : decode cX5_forget 2 = .ok (.putfield 32, 3) := by decide +kernel
theorem dX5_forget_5 : decode cX5_forget 5 = .ok (.return_, 1) := by decide +kernel
theorem dX5_look_0 : decode cX5_look 0 = .ok (.aload_n 0, 1) := by decide +kernel
theorem dX5_look_1 : decode cX5_look 1 = .ok (.getfield 32, 3) := by decide +kernel
theorem dX5_look_4 : decode cX5_look 4 = .ok (.ifCond .eq 4, 3) := by decide +kernel
theorem dX5_look_7 : decode cX5_look 7 = .ok (.return_, 1) := by decide +kernel
theorem dX5_look_8 : decode cX5_look 8 = .ok (.aload_n 0, 1) := by decide +kernel
theorem dX5_look_9 : decode cX5_look 9 = .ok (.iconst 1, 1) := by decide +kernel
theorem dX5_look_10 : decode cX5_look 10 = .ok (.putfield 32, 3) := by decide +kernel
theorem dX5_look_13 : decode cX5_look 13 = .ok (.aload_n 0, 1) := by decide +kernel
theorem dX5_look_14 : decode cX5_look 14 = .ok (.iconst (-1), 1) := by decide +kernel
theorem dX5_look_15 : decode cX5_look 15 = .ok (.putfield 36, 3) := by decide +kernel
theorem dX5_look_18 : decode cX5_look 18 = .ok (.aload_n 0, 1) := by decide +kernel
theorem dX5_look_19 : decode cX5_look 19 = .ok (.iconst 0, 1) := by decide +kernel
theorem dX5_look_20 : decode cX5_look 20 = .ok (.putfield 39, 3) := by decide +kernel
theorem dX5_look_23 : decode cX5_look 23 = .ok (.aload_n 0, 1) := by decide +kernel
theorem dX5_look_24 : decode cX5_look 24 = .ok (.lconst 0, 1) := by decide +kernel
theorem dX5_look_25 : decode cX5_look 25 = .ok (.putfield 42, 3) := by decide +kernel
theorem dX5_look_28 : decode cX5_look 28 = .ok (.aload_n 0, 1) := by decide +kernel
theorem dX5_look_29 : decode cX5_look 29 = .ok (.invokevirtual 57, 3) := by decide +kernel
theorem dX5_look_32 : decode cX5_look 32 = .ok (.aload_n 0, 1) := by decide +kernel
theorem dX5_look_33 : decode cX5_look 33 = .ok (.invokevirtual 60, 3) := by decide +kernel
theorem dX5_look_36 : decode cX5_look 36 = .ok (.aload_n 0, 1) := by decide +kernel
theorem dX5_look_37 : decode cX5_look 37 = .ok (.getfield 53, 3) := by decide +kernel
theorem dX5_look_40 : decode cX5_look 40 = .ok (.aload_n 0, 1) := by decide +kernel
theorem dX5_look_41 : decode cX5_look 41 = .ok (.getfield 19, 3) := by decide +kernel
theorem dX5_look_44 : decode cX5_look 44 = .ok (.aload_n 0, 1) := by decide +kernel
theorem dX5_look_45 : decode cX5_look 45 = .ok (.getfield 49, 3) := by decide +kernel
theorem dX5_look_48 : decode cX5_look 48 = .ok (.getfield 63, 3) := by decide +kernel
theorem dX5_look_51 : decode cX5_look 51 = .ok (.invokevirtual 68, 3) := by decide +kernel
theorem dX5_look_54 : decode cX5_look 54 = .ok (.aload_n 0, 1) := by decide +kernel
theorem dX5_look_55 : decode cX5_look 55 = .ok (.iconst 0, 1) := by decide +kernel
theorem dX5_look_56 : decode cX5_look 56 = .ok (.lconst 1, 1) := by decide +kernel
theorem dX5_look_57 : decode cX5_look 57 = .ok (.invokevirtual 74, 3) := by decide +kernel
theorem dX5_look_60 : decode cX5_look 60 = .ok (.return_, 1) := by decide +kernel
theorem dX5_takeFixed_0 : decode cX5_takeFixed 0 = .ok (.iconst 0, 1) := by decide +kernel
theorem dX5_takeFixed_1 : decode cX5_takeFixed 1 = .ok (.istore_n 1, 1) := by decide +kernel
theorem dX5_takeFixed_2 : decode cX5_takeFixed 2 = .ok (.iload_n 1, 1) := by decide +kernel
theorem dX5_takeFixed_3 : decode cX5_takeFixed 3 = .ok (.bipush 48, 2) := by decide +kernel
theorem dX5_takeFixed_5 : decode cX5_takeFixed 5 = .ok (.if_icmp .ge 16, 3) := by decide +kernel
theorem dX5_takeFixed_8 : decode cX5_takeFixed 8 = .ok (.aload_n 0, 1) := by decide +kernel
theorem dX5_takeFixed_9 : decode cX5_takeFixed 9 = .ok (.getfield 22, 3) := by decide +kernel
theorem dX5_takeFixed_12 : decode cX5_takeFixed 12 = .ok (.iload_n 1, 1) := by decide +kernel
theorem dX5_takeFixed_13 : decode cX5_takeFixed 13 = .ok (.iconst 0, 1) := by decide +kernel
theorem dX5_takeFixed_14 : decode cX5_takeFixed 14 = .ok (.bastore, 1) := by decide +kernel
theorem dX5_takeFixed_15 : decode cX5_takeFixed 15 = .ok (.iinc 1 1, 3) := by decide +kernel
theorem dX5_takeFixed_18 : decode cX5_takeFixed 18 = .ok (.goto (-16), 3) := by decide +kernel
theorem dX5_takeFixed_21 : decode cX5_takeFixed 21 = .ok (.aload_n 0, 1) := by decide +kernel
theorem dX5_takeFixed_22 : decode cX5_takeFixed 22 = .ok (.iconst 0, 1) := by decide +kernel
theorem dX5_takeFixed_23 : decode cX5_takeFixed 23 = .ok (.putfield 15, 3) := by decide +kernel
theorem dX5_takeFixed_26 : decode cX5_takeFixed 26 = .ok (.iconst 0, 1) := by decide +kernel
theorem dX5_takeFixed_27 : decode cX5_takeFixed 27 = .ok (.istore_n 1, 1) := by decide +kernel
theorem dX5_takeFixed_28 : decode cX5_takeFixed 28 = .ok (.iload_n 1, 1) := by decide +kernel
theorem dX5_takeFixed_29 : decode cX5_takeFixed 29 = .ok (.aload_n 0, 1) := by decide +kernel
theorem dX5_takeFixed_30 : decode cX5_takeFixed 30 = .ok (.getfield 49, 3) := by decide +kernel
theorem dX5_takeFixed_33 : decode cX5_takeFixed 33 = .ok (.getfield 78, 3) := by decide +kernel
theorem dX5_takeFixed_36 : decode cX5_takeFixed 36 = .ok (.if_icmp .ge 75, 3) := by decide +kernel
theorem dX5_takeFixed_39 : decode cX5_takeFixed 39 = .ok (.aload_n 0, 1) := by decide +kernel
theorem dX5_takeFixed_40 : decode cX5_takeFixed 40 = .ok (.getfield 49, 3) := by decide +kernel
theorem dX5_takeFixed_43 : decode cX5_takeFixed 43 = .ok (.getfield 81, 3) := by decide +kernel
theorem dX5_takeFixed_46 : decode cX5_takeFixed 46 = .ok (.iload_n 1, 1) := by decide +kernel
theorem dX5_takeFixed_47 : decode cX5_takeFixed 47 = .ok (.iaload, 1) := by decide +kernel
theorem dX5_takeFixed_48 : decode cX5_takeFixed 48 = .ok (.istore_n 2, 1) := by decide +kernel
theorem dX5_takeFixed_49 : decode cX5_takeFixed 49 = .ok (.aload_n 0, 1) := by decide +kernel
theorem dX5_takeFixed_50 : decode cX5_takeFixed 50 = .ok (.getfield 19, 3) := by decide +kernel
theorem dX5_takeFixed_53 : decode cX5_takeFixed 53 = .ok (.iload_n 1, 1) := by decide +kernel
theorem dX5_takeFixed_54 : decode cX5_takeFixed 54 = .ok (.iload_n 2, 1) := by decide +kernel
theorem dX5_takeFixed_55 : decode cX5_takeFixed 55 = .ok (.iastore, 1) := by decide +kernel
theorem dX5_takeFixed_56 : decode cX5_takeFixed 56 = .ok (.aload_n 0, 1) := by decide +kernel
theorem dX5_takeFixed_57 : decode cX5_takeFixed 57 = .ok (.getfield 49, 3) := by decide +kernel
theorem dX5_takeFixed_60 : decode cX5_takeFixed 60 = .ok (.iload_n 2, 1) := by decide +kernel
theorem dX5_takeFixed_61 : decode cX5_takeFixed 61 = .ok (.invokevirtual 84, 3) := by decide +kernel
theorem dX5_takeFixed_64 : decode cX5_takeFixed 64 = .ok (.ifCond .eq 13, 3) := by decide +kernel
theorem dX5_takeFixed_67 : decode cX5_takeFixed 67 = .ok (.aload_n 0, 1) := by decide +kernel
theorem dX5_takeFixed_68 : decode cX5_takeFixed 68 = .ok (.getfield 22, 3) := by decide +kernel
theorem dX5_takeFixed_71 : decode cX5_takeFixed 71 = .ok (.iload_n 2, 1) := by decide +kernel
theorem dX5_takeFixed_72 : decode cX5_takeFixed 72 = .ok (.iconst 1, 1) := by decide +kernel
theorem dX5_takeFixed_73 : decode cX5_takeFixed 73 = .ok (.bastore, 1) := by decide +kernel
theorem dX5_takeFixed_74 : decode cX5_takeFixed 74 = .ok (.goto 31, 3) := by decide +kernel
theorem dX5_takeFixed_77 : decode cX5_takeFixed 77 = .ok (.aload_n 0, 1) := by decide +kernel
theorem dX5_takeFixed_78 : decode cX5_takeFixed 78 = .ok (.getfield 15, 3) := by decide +kernel
theorem dX5_takeFixed_81 : decode cX5_takeFixed 81 = .ok (.iconst 4, 1) := by decide +kernel
theorem dX5_takeFixed_82 : decode cX5_takeFixed 82 = .ok (.if_icmp .ge 23, 3) := by decide +kernel
theorem dX5_takeFixed_85 : decode cX5_takeFixed 85 = .ok (.aload_n 0, 1) := by decide +kernel
theorem dX5_takeFixed_86 : decode cX5_takeFixed 86 = .ok (.getfield 9, 3) := by decide +kernel
theorem dX5_takeFixed_89 : decode cX5_takeFixed 89 = .ok (.aload_n 0, 1) := by decide +kernel
theorem dX5_takeFixed_90 : decode cX5_takeFixed 90 = .ok (.getfield 15, 3) := by decide +kernel
theorem dX5_takeFixed_93 : decode cX5_takeFixed 93 = .ok (.iload_n 1, 1) := by decide +kernel
theorem dX5_takeFixed_94 : decode cX5_takeFixed 94 = .ok (.iastore, 1) := by decide +kernel
theorem dX5_takeFixed_95 : decode cX5_takeFixed 95 = .ok (.aload_n 0, 1) := by decide +kernel
theorem dX5_takeFixed_96 : decode cX5_takeFixed 96 = .ok (.dup, 1) := by decide +kernel
theorem dX5_takeFixed_97 : decode cX5_takeFixed 97 = .ok (.getfield 15, 3) := by decide +kernel
theorem dX5_takeFixed_100 : decode cX5_takeFixed 100 = .ok (.iconst 1, 1) := by decide +kernel
theorem dX5_takeFixed_101 : decode cX5_takeFixed 101 = .ok (.iadd, 1) := by decide +kernel
theorem dX5_takeFixed_102 : decode cX5_takeFixed 102 = .ok (.putfield 15, 3) := by decide +kernel
theorem dX5_takeFixed_105 : decode cX5_takeFixed 105 = .ok (.iinc 1 1, 3) := by decide +kernel
theorem dX5_takeFixed_108 : decode cX5_takeFixed 108 = .ok (.goto (-80), 3) := by decide +kernel
theorem dX5_takeFixed_111 : decode cX5_takeFixed 111 = .ok (.return_, 1) := by decide +kernel
theorem dX5_groupAddresses_0 : decode cX5_groupAddresses 0 = .ok (.iconst 0, 1) := by decide +kernel
theorem dX5_groupAddresses_1 : decode cX5_groupAddresses 1 = .ok (.istore_n 1, 1) := by decide +kernel
theorem dX5_groupAddresses_2 : decode cX5_groupAddresses 2 = .ok (.iload_n 1, 1) := by decide +kernel
theorem dX5_groupAddresses_3 : decode cX5_groupAddresses 3 = .ok (.bipush 24, 2) := by decide +kernel
theorem dX5_groupAddresses_5 : decode cX5_groupAddresses 5 = .ok (.if_icmp .ge 16, 3) := by decide +kernel
theorem dX5_groupAddresses_8 : decode cX5_groupAddresses 8 = .ok (.aload_n 0, 1) := by decide +kernel
theorem dX5_groupAddresses_9 : decode cX5_groupAddresses 9 = .ok (.getfield 29, 3) := by decide +kernel
theorem dX5_groupAddresses_12 : decode cX5_groupAddresses 12 = .ok (.iload_n 1, 1) := by decide +kernel
theorem dX5_groupAddresses_13 : decode cX5_groupAddresses 13 = .ok (.iconst 0, 1) := by decide +kernel
theorem dX5_groupAddresses_14 : decode cX5_groupAddresses 14 = .ok (.iastore, 1) := by decide +kernel
theorem dX5_groupAddresses_15 : decode cX5_groupAddresses 15 = .ok (.iinc 1 1, 3) := by decide +kernel
theorem dX5_groupAddresses_18 : decode cX5_groupAddresses 18 = .ok (.goto (-16), 3) := by decide +kernel
theorem dX5_groupAddresses_21 : decode cX5_groupAddresses 21 = .ok (.iconst 0, 1) := by decide +kernel
theorem dX5_groupAddresses_22 : decode cX5_groupAddresses 22 = .ok (.istore_n 1, 1) := by decide +kernel
theorem dX5_groupAddresses_23 : decode cX5_groupAddresses 23 = .ok (.iload_n 1, 1) := by decide +kernel
theorem dX5_groupAddresses_24 : decode cX5_groupAddresses 24 = .ok (.aload_n 0, 1) := by decide +kernel
theorem dX5_groupAddresses_25 : decode cX5_groupAddresses 25 = .ok (.getfield 49, 3) := by decide +kernel
theorem dX5_groupAddresses_28 : decode cX5_groupAddresses 28 = .ok (.invokevirtual 88, 3) := by decide +kernel
theorem dX5_groupAddresses_31 : decode cX5_groupAddresses 31 = .ok (.if_icmp .ge 86, 3) := by decide +kernel
theorem dX5_groupAddresses_34 : decode cX5_groupAddresses 34 = .ok (.aload_n 0, 1) := by decide +kernel
theorem dX5_groupAddresses_35 : decode cX5_groupAddresses 35 = .ok (.getfield 53, 3) := by decide +kernel
theorem dX5_groupAddresses_38 : decode cX5_groupAddresses 38 = .ok (.iload_n 1, 1) := by decide +kernel
theorem dX5_groupAddresses_39 : decode cX5_groupAddresses 39 = .ok (.aload_n 0, 1) := by decide +kernel
theorem dX5_groupAddresses_40 : decode cX5_groupAddresses 40 = .ok (.getfield 49, 3) := by decide +kernel
theorem dX5_groupAddresses_43 : decode cX5_groupAddresses 43 = .ok (.getfield 63, 3) := by decide +kernel
theorem dX5_groupAddresses_46 : decode cX5_groupAddresses 46 = .ok (.invokevirtual 92, 3) := by decide +kernel
theorem dX5_groupAddresses_49 : decode cX5_groupAddresses 49 = .ok (.istore_n 2, 1) := by decide +kernel
theorem dX5_groupAddresses_50 : decode cX5_groupAddresses 50 = .ok (.iload_n 2, 1) := by decide +kernel
theorem dX5_groupAddresses_51 : decode cX5_groupAddresses 51 = .ok (.ifCond .le 9, 3) := by decide +kernel
theorem dX5_groupAddresses_54 : decode cX5_groupAddresses 54 = .ok (.iload_n 1, 1) := by decide +kernel
theorem dX5_groupAddresses_55 : decode cX5_groupAddresses 55 = .ok (.iload_n 2, 1) := by decide +kernel
theorem dX5_groupAddresses_56 : decode cX5_groupAddresses 56 = .ok (.irem, 1) := by decide +kernel
theorem dX5_groupAddresses_57 : decode cX5_groupAddresses 57 = .ok (.goto 4, 3) := by decide +kernel
theorem dX5_groupAddresses_60 : decode cX5_groupAddresses 60 = .ok (.iconst 0, 1) := by decide +kernel
theorem dX5_groupAddresses_61 : decode cX5_groupAddresses 61 = .ok (.istore_n 3, 1) := by decide +kernel
theorem dX5_groupAddresses_62 : decode cX5_groupAddresses 62 = .ok (.aload_n 0, 1) := by decide +kernel
theorem dX5_groupAddresses_63 : decode cX5_groupAddresses 63 = .ok (.getfield 26, 3) := by decide +kernel
theorem dX5_groupAddresses_66 : decode cX5_groupAddresses 66 = .ok (.iload_n 1, 1) := by decide +kernel
theorem dX5_groupAddresses_67 : decode cX5_groupAddresses 67 = .ok (.iload_n 2, 1) := by decide +kernel
theorem dX5_groupAddresses_68 : decode cX5_groupAddresses 68 = .ok (.aload_n 0, 1) := by decide +kernel
theorem dX5_groupAddresses_69 : decode cX5_groupAddresses 69 = .ok (.getfield 49, 3) := by decide +kernel
theorem dX5_groupAddresses_72 : decode cX5_groupAddresses 72 = .ok (.getfield 96, 3) := by decide +kernel
theorem dX5_groupAddresses_75 : decode cX5_groupAddresses 75 = .ok (.if_icmp .ne 7, 3) := by decide +kernel
theorem dX5_groupAddresses_78 : decode cX5_groupAddresses 78 = .ok (.iload_n 3, 1) := by decide +kernel
theorem dX5_groupAddresses_79 : decode cX5_groupAddresses 79 = .ok (.goto 7, 3) := by decide +kernel
theorem dX5_groupAddresses_82 : decode cX5_groupAddresses 82 = .ok (.bipush 12, 2) := by decide +kernel
theorem dX5_groupAddresses_84 : decode cX5_groupAddresses 84 = .ok (.iload_n 3, 1) := by decide +kernel
theorem dX5_groupAddresses_85 : decode cX5_groupAddresses 85 = .ok (.iadd, 1) := by decide +kernel
theorem dX5_groupAddresses_86 : decode cX5_groupAddresses 86 = .ok (.iastore, 1) := by decide +kernel
theorem dX5_groupAddresses_87 : decode cX5_groupAddresses 87 = .ok (.aload_n 0, 1) := by decide +kernel
theorem dX5_groupAddresses_88 : decode cX5_groupAddresses 88 = .ok (.getfield 22, 3) := by decide +kernel
theorem dX5_groupAddresses_91 : decode cX5_groupAddresses 91 = .ok (.iload_n 1, 1) := by decide +kernel
theorem dX5_groupAddresses_92 : decode cX5_groupAddresses 92 = .ok (.baload, 1) := by decide +kernel
theorem dX5_groupAddresses_93 : decode cX5_groupAddresses 93 = .ok (.ifCond .ne 18, 3) := by decide +kernel
theorem dX5_groupAddresses_96 : decode cX5_groupAddresses 96 = .ok (.aload_n 0, 1) := by decide +kernel
theorem dX5_groupAddresses_97 : decode cX5_groupAddresses 97 = .ok (.getfield 29, 3) := by decide +kernel
theorem dX5_groupAddresses_100 : decode cX5_groupAddresses 100 = .ok (.aload_n 0, 1) := by decide +kernel
theorem dX5_groupAddresses_101 : decode cX5_groupAddresses 101 = .ok (.getfield 26, 3) := by decide +kernel
theorem dX5_groupAddresses_104 : decode cX5_groupAddresses 104 = .ok (.iload_n 1, 1) := by decide +kernel
theorem dX5_groupAddresses_105 : decode cX5_groupAddresses 105 = .ok (.iaload, 1) := by decide +kernel
theorem dX5_groupAddresses_106 : decode cX5_groupAddresses 106 = .ok (.dup2, 1) := by decide +kernel
theorem dX5_groupAddresses_107 : decode cX5_groupAddresses 107 = .ok (.iaload, 1) := by decide +kernel
theorem dX5_groupAddresses_108 : decode cX5_groupAddresses 108 = .ok (.iconst 1, 1) := by decide +kernel
theorem dX5_groupAddresses_109 : decode cX5_groupAddresses 109 = .ok (.iadd, 1) := by decide +kernel
theorem dX5_groupAddresses_110 : decode cX5_groupAddresses 110 = .ok (.iastore, 1) := by decide +kernel
theorem dX5_groupAddresses_111 : decode cX5_groupAddresses 111 = .ok (.iinc 1 1, 3) := by decide +kernel
theorem dX5_groupAddresses_114 : decode cX5_groupAddresses 114 = .ok (.goto (-91), 3) := by decide +kernel
theorem dX5_groupAddresses_117 : decode cX5_groupAddresses 117 = .ok (.return_, 1) := by decide +kernel
theorem dX5_layLoose_0 : decode cX5_layLoose 0 = .ok (.iload_n 1, 1) := by decide +kernel
theorem dX5_layLoose_1 : decode cX5_layLoose 1 = .ok (.aload_n 0, 1) := by decide +kernel
theorem dX5_layLoose_2 : decode cX5_layLoose 2 = .ok (.getfield 15, 3) := by decide +kernel
theorem dX5_layLoose_5 : decode cX5_layLoose 5 = .ok (.if_icmp .ge 8, 3) := by decide +kernel
theorem dX5_layLoose_8 : decode cX5_layLoose 8 = .ok (.iload_n 1, 1) := by decide +kernel
theorem dX5_layLoose_9 : decode cX5_layLoose 9 = .ok (.iconst 4, 1) := by decide +kernel
theorem dX5_layLoose_10 : decode cX5_layLoose 10 = .ok (.if_icmp .lt 9, 3) := by decide +kernel
theorem dX5_layLoose_13 : decode cX5_layLoose 13 = .ok (.aload_n 0, 1) := by decide +kernel
theorem dX5_layLoose_14 : decode cX5_layLoose 14 = .ok (.lload_n 2, 1) := by decide +kernel
theorem dX5_layLoose_15 : decode cX5_layLoose 15 = .ok (.invokevirtual 99, 3) := by decide +kernel
theorem dX5_layLoose_18 : decode cX5_layLoose 18 = .ok (.return_, 1) := by decide +kernel
theorem dX5_layLoose_19 : decode cX5_layLoose 19 = .ok (.aload_n 0, 1) := by decide +kernel
theorem dX5_layLoose_20 : decode cX5_layLoose 20 = .ok (.getfield 9, 3) := by decide +kernel
theorem dX5_layLoose_23 : decode cX5_layLoose 23 = .ok (.iload_n 1, 1) := by decide +kernel
theorem dX5_layLoose_24 : decode cX5_layLoose 24 = .ok (.iaload, 1) := by decide +kernel
theorem dX5_layLoose_25 : decode cX5_layLoose 25 = .ok (.istore 4, 2) := by decide +kernel
theorem dX5_layLoose_27 : decode cX5_layLoose 27 = .ok (.iconst 0, 1) := by decide +kernel
theorem dX5_layLoose_28 : decode cX5_layLoose 28 = .ok (.istore 5, 2) := by decide +kernel
theorem dX5_layLoose_30 : decode cX5_layLoose 30 = .ok (.iconst 0, 1) := by decide +kernel
theorem dX5_layLoose_31 : decode cX5_layLoose 31 = .ok (.istore 6, 2) := by decide +kernel
theorem dX5_layLoose_33 : decode cX5_layLoose 33 = .ok (.iload 6, 2) := by decide +kernel
theorem dX5_layLoose_35 : decode cX5_layLoose 35 = .ok (.aload_n 0, 1) := by decide +kernel
theorem dX5_layLoose_36 : decode cX5_layLoose 36 = .ok (.getfield 49, 3) := by decide +kernel
theorem dX5_layLoose_39 : decode cX5_layLoose 39 = .ok (.invokevirtual 88, 3) := by decide +kernel
theorem dX5_layLoose_42 : decode cX5_layLoose 42 = .ok (.if_icmp .ge 134, 3) := by decide +kernel
theorem dX5_layLoose_45 : decode cX5_layLoose 45 = .ok (.aload_n 0, 1) := by decide +kernel
theorem dX5_layLoose_46 : decode cX5_layLoose 46 = .ok (.getfield 26, 3) := by decide +kernel
theorem dX5_layLoose_49 : decode cX5_layLoose 49 = .ok (.iload 6, 2) := by decide +kernel
theorem dX5_layLoose_51 : decode cX5_layLoose 51 = .ok (.iaload, 1) := by decide +kernel
theorem dX5_layLoose_52 : decode cX5_layLoose 52 = .ok (.istore 7, 2) := by decide +kernel
theorem dX5_layLoose_54 : decode cX5_layLoose 54 = .ok (.aload_n 0, 1) := by decide +kernel
theorem dX5_layLoose_55 : decode cX5_layLoose 55 = .ok (.getfield 22, 3) := by decide +kernel
theorem dX5_layLoose_58 : decode cX5_layLoose 58 = .ok (.iload 6, 2) := by decide +kernel
theorem dX5_layLoose_60 : decode cX5_layLoose 60 = .ok (.baload, 1) := by decide +kernel
theorem dX5_layLoose_61 : decode cX5_layLoose 61 = .ok (.ifCond .ne 109, 3) := by decide +kernel
theorem dX5_layLoose_64 : decode cX5_layLoose 64 = .ok (.iload 5, 2) := by decide +kernel
theorem dX5_layLoose_66 : decode cX5_layLoose 66 = .ok (.iload 7, 2) := by decide +kernel
theorem dX5_layLoose_68 : decode cX5_layLoose 68 = .ok (.ishr, 1) := by decide +kernel
theorem dX5_layLoose_69 : decode cX5_layLoose 69 = .ok (.iconst 1, 1) := by decide +kernel
theorem dX5_layLoose_70 : decode cX5_layLoose 70 = .ok (.iand, 1) := by decide +kernel
theorem dX5_layLoose_71 : decode cX5_layLoose 71 = .ok (.ifCond .eq 6, 3) := by decide +kernel
theorem dX5_layLoose_74 : decode cX5_layLoose 74 = .ok (.goto 96, 3) := by decide +kernel
theorem dX5_layLoose_77 : decode cX5_layLoose 77 = .ok (.iload 5, 2) := by decide +kernel
theorem dX5_layLoose_79 : decode cX5_layLoose 79 = .ok (.iconst 1, 1) := by decide +kernel
theorem dX5_layLoose_80 : decode cX5_layLoose 80 = .ok (.iload 7, 2) := by decide +kernel
theorem dX5_layLoose_82 : decode cX5_layLoose 82 = .ok (.ishl, 1) := by decide +kernel
theorem dX5_layLoose_83 : decode cX5_layLoose 83 = .ok (.ior, 1) := by decide +kernel
theorem dX5_layLoose_84 : decode cX5_layLoose 84 = .ok (.istore 5, 2) := by decide +kernel
theorem dX5_layLoose_86 : decode cX5_layLoose 86 = .ok (.aload_n 0, 1) := by decide +kernel
theorem dX5_layLoose_87 : decode cX5_layLoose 87 = .ok (.getfield 29, 3) := by decide +kernel
theorem dX5_layLoose_90 : decode cX5_layLoose 90 = .ok (.iload 7, 2) := by decide +kernel
theorem dX5_layLoose_92 : decode cX5_layLoose 92 = .ok (.iaload, 1) := by decide +kernel
theorem dX5_layLoose_93 : decode cX5_layLoose 93 = .ok (.istore 8, 2) := by decide +kernel
theorem dX5_layLoose_95 : decode cX5_layLoose 95 = .ok (.aload_n 0, 1) := by decide +kernel
theorem dX5_layLoose_96 : decode cX5_layLoose 96 = .ok (.getfield 22, 3) := by decide +kernel
theorem dX5_layLoose_99 : decode cX5_layLoose 99 = .ok (.iload 6, 2) := by decide +kernel
theorem dX5_layLoose_101 : decode cX5_layLoose 101 = .ok (.iconst 1, 1) := by decide +kernel
theorem dX5_layLoose_102 : decode cX5_layLoose 102 = .ok (.bastore, 1) := by decide +kernel
theorem dX5_layLoose_103 : decode cX5_layLoose 103 = .ok (.aload_n 0, 1) := by decide +kernel
theorem dX5_layLoose_104 : decode cX5_layLoose 104 = .ok (.getfield 29, 3) := by decide +kernel
theorem dX5_layLoose_107 : decode cX5_layLoose 107 = .ok (.iload 7, 2) := by decide +kernel
theorem dX5_layLoose_109 : decode cX5_layLoose 109 = .ok (.iload 8, 2) := by decide +kernel
theorem dX5_layLoose_111 : decode cX5_layLoose 111 = .ok (.iconst 1, 1) := by decide +kernel
theorem dX5_layLoose_112 : decode cX5_layLoose 112 = .ok (.isub, 1) := by decide +kernel
theorem dX5_layLoose_113 : decode cX5_layLoose 113 = .ok (.iastore, 1) := by decide +kernel
theorem dX5_layLoose_114 : decode cX5_layLoose 114 = .ok (.aload_n 0, 1) := by decide +kernel
theorem dX5_layLoose_115 : decode cX5_layLoose 115 = .ok (.getfield 19, 3) := by decide +kernel
theorem dX5_layLoose_118 : decode cX5_layLoose 118 = .ok (.iload 4, 2) := by decide +kernel
theorem dX5_layLoose_120 : decode cX5_layLoose 120 = .ok (.iload 6, 2) := by decide +kernel
theorem dX5_layLoose_122 : decode cX5_layLoose 122 = .ok (.iastore, 1) := by decide +kernel
theorem dX5_layLoose_123 : decode cX5_layLoose 123 = .ok (.aload_n 0, 1) := by decide +kernel
theorem dX5_layLoose_124 : decode cX5_layLoose 124 = .ok (.getfield 53, 3) := by decide +kernel
theorem dX5_layLoose_127 : decode cX5_layLoose 127 = .ok (.iload 4, 2) := by decide +kernel
theorem dX5_layLoose_129 : decode cX5_layLoose 129 = .ok (.iload 6, 2) := by decide +kernel
theorem dX5_layLoose_131 : decode cX5_layLoose 131 = .ok (.aload_n 0, 1) := by decide +kernel
theorem dX5_layLoose_132 : decode cX5_layLoose 132 = .ok (.getfield 49, 3) := by decide +kernel
theorem dX5_layLoose_135 : decode cX5_layLoose 135 = .ok (.getfield 63, 3) := by decide +kernel
theorem dX5_layLoose_138 : decode cX5_layLoose 138 = .ok (.invokevirtual 103, 3) := by decide +kernel
theorem dX5_layLoose_141 : decode cX5_layLoose 141 = .ok (.aload_n 0, 1) := by decide +kernel
theorem dX5_layLoose_142 : decode cX5_layLoose 142 = .ok (.iload_n 1, 1) := by decide +kernel
theorem dX5_layLoose_143 : decode cX5_layLoose 143 = .ok (.iconst 1, 1) := by decide +kernel
theorem dX5_layLoose_144 : decode cX5_layLoose 144 = .ok (.iadd, 1) := by decide +kernel
theorem dX5_layLoose_145 : decode cX5_layLoose 145 = .ok (.lload_n 2, 1) := by decide +kernel
theorem dX5_layLoose_146 : decode cX5_layLoose 146 = .ok (.iload 8, 2) := by decide +kernel
theorem dX5_layLoose_148 : decode cX5_layLoose 148 = .ok (.i2l, 1) := by decide +kernel
theorem dX5_layLoose_149 : decode cX5_layLoose 149 = .ok (.lmul, 1) := by decide +kernel
theorem dX5_layLoose_150 : decode cX5_layLoose 150 = .ok (.invokevirtual 74, 3) := by decide +kernel
theorem dX5_layLoose_153 : decode cX5_layLoose 153 = .ok (.aload_n 0, 1) := by decide +kernel
theorem dX5_layLoose_154 : decode cX5_layLoose 154 = .ok (.getfield 29, 3) := by decide +kernel
theorem dX5_layLoose_157 : decode cX5_layLoose 157 = .ok (.iload 7, 2) := by decide +kernel
theorem dX5_layLoose_159 : decode cX5_layLoose 159 = .ok (.iload 8, 2) := by decide +kernel
theorem dX5_layLoose_161 : decode cX5_layLoose 161 = .ok (.iastore, 1) := by decide +kernel
theorem dX5_layLoose_162 : decode cX5_layLoose 162 = .ok (.aload_n 0, 1) := by decide +kernel
theorem dX5_layLoose_163 : decode cX5_layLoose 163 = .ok (.getfield 22, 3) := by decide +kernel
theorem dX5_layLoose_166 : decode cX5_layLoose 166 = .ok (.iload 6, 2) := by decide +kernel
theorem dX5_layLoose_168 : decode cX5_layLoose 168 = .ok (.iconst 0, 1) := by decide +kernel
theorem dX5_layLoose_169 : decode cX5_layLoose 169 = .ok (.bastore, 1) := by decide +kernel
theorem dX5_layLoose_170 : decode cX5_layLoose 170 = .ok (.iinc 6 1, 3) := by decide +kernel
theorem dX5_layLoose_173 : decode cX5_layLoose 173 = .ok (.goto (-140), 3) := by decide +kernel
theorem dX5_layLoose_176 : decode cX5_layLoose 176 = .ok (.return_, 1) := by decide +kernel
theorem dX5_judge_0 : decode cX5_judge 0 = .ok (.aload_n 0, 1) := by decide +kernel
theorem dX5_judge_1 : decode cX5_judge 1 = .ok (.getfield 53, 3) := by decide +kernel
theorem dX5_judge_4 : decode cX5_judge 4 = .ok (.aload_n 0, 1) := by decide +kernel
theorem dX5_judge_5 : decode cX5_judge 5 = .ok (.getfield 49, 3) := by decide +kernel
theorem dX5_judge_8 : decode cX5_judge 8 = .ok (.getfield 107, 3) := by decide +kernel
theorem dX5_judge_11 : decode cX5_judge 11 = .ok (.iconst 0, 1) := by decide +kernel
theorem dX5_judge_12 : decode cX5_judge 12 = .ok (.invokevirtual 110, 3) := by decide +kernel
theorem dX5_judge_15 : decode cX5_judge 15 = .ok (.istore_n 3, 1) := by decide +kernel
theorem dX5_judge_16 : decode cX5_judge 16 = .ok (.aload_n 0, 1) := by decide +kernel
theorem dX5_judge_17 : decode cX5_judge 17 = .ok (.aload_n 0, 1) := by decide +kernel
theorem dX5_judge_18 : decode cX5_judge 18 = .ok (.getfield 39, 3) := by decide +kernel
theorem dX5_judge_21 : decode cX5_judge 21 = .ok (.iload_n 3, 1) := by decide +kernel
theorem dX5_judge_22 : decode cX5_judge 22 = .ok (.invokestatic 114, 3) := by decide +kernel
theorem dX5_judge_25 : decode cX5_judge 25 = .ok (.putfield 39, 3) := by decide +kernel
theorem dX5_judge_28 : decode cX5_judge 28 = .ok (.aload_n 0, 1) := by decide +kernel
theorem dX5_judge_29 : decode cX5_judge 29 = .ok (.getfield 36, 3) := by decide +kernel
theorem dX5_judge_32 : decode cX5_judge 32 = .ok (.iconst (-1), 1) := by decide +kernel
theorem dX5_judge_33 : decode cX5_judge 33 = .ok (.if_icmp .eq 11, 3) := by decide +kernel
theorem dX5_judge_36 : decode cX5_judge 36 = .ok (.iload_n 3, 1) := by decide +kernel
theorem dX5_judge_37 : decode cX5_judge 37 = .ok (.aload_n 0, 1) := by decide +kernel
theorem dX5_judge_38 : decode cX5_judge 38 = .ok (.getfield 36, 3) := by decide +kernel
theorem dX5_judge_41 : decode cX5_judge 41 = .ok (.if_icmp .ge 24, 3) := by decide +kernel
theorem dX5_judge_44 : decode cX5_judge 44 = .ok (.aload_n 0, 1) := by decide +kernel
theorem dX5_judge_45 : decode cX5_judge 45 = .ok (.iload_n 3, 1) := by decide +kernel
theorem dX5_judge_46 : decode cX5_judge 46 = .ok (.putfield 36, 3) := by decide +kernel
theorem dX5_judge_49 : decode cX5_judge 49 = .ok (.aload_n 0, 1) := by decide +kernel
theorem dX5_judge_50 : decode cX5_judge 50 = .ok (.lconst 0, 1) := by decide +kernel
theorem dX5_judge_51 : decode cX5_judge 51 = .ok (.putfield 42, 3) := by decide +kernel
theorem dX5_judge_54 : decode cX5_judge 54 = .ok (.aload_n 0, 1) := by decide +kernel
theorem dX5_judge_55 : decode cX5_judge 55 = .ok (.getfield 19, 3) := by decide +kernel
theorem dX5_judge_58 : decode cX5_judge 58 = .ok (.aload_n 0, 1) := by decide +kernel
theorem dX5_judge_59 : decode cX5_judge 59 = .ok (.getfield 46, 3) := by decide +kernel
theorem dX5_judge_62 : decode cX5_judge 62 = .ok (.invokestatic 119, 3) := by decide +kernel
theorem dX5_judge_65 : decode cX5_judge 65 = .ok (.iload_n 3, 1) := by decide +kernel
theorem dX5_judge_66 : decode cX5_judge 66 = .ok (.aload_n 0, 1) := by decide +kernel
theorem dX5_judge_67 : decode cX5_judge 67 = .ok (.getfield 36, 3) := by decide +kernel
theorem dX5_judge_70 : decode cX5_judge 70 = .ok (.if_icmp .ne 13, 3) := by decide +kernel
theorem dX5_judge_73 : decode cX5_judge 73 = .ok (.aload_n 0, 1) := by decide +kernel
theorem dX5_judge_74 : decode cX5_judge 74 = .ok (.dup, 1) := by decide +kernel
theorem dX5_judge_75 : decode cX5_judge 75 = .ok (.getfield 42, 3) := by decide +kernel
theorem dX5_judge_78 : decode cX5_judge 78 = .ok (.lload_n 1, 1) := by decide +kernel
theorem dX5_judge_79 : decode cX5_judge 79 = .ok (.ladd, 1) := by decide +kernel
theorem dX5_judge_80 : decode cX5_judge 80 = .ok (.putfield 42, 3) := by decide +kernel
theorem dX5_judge_83 : decode cX5_judge 83 = .ok (.return_, 1) := by decide +kernel
theorem dX6_init_0 : decode cX6_init 0 = .ok (.aload_n 0, 1) := by decide +kernel
theorem dX6_init_1 : decode cX6_init 1 = .ok (.invokespecial 3, 3) := by decide +kernel
theorem dX6_init_4 : decode cX6_init 4 = .ok (.aload_n 0, 1) := by decide +kernel
theorem dX6_init_5 : decode cX6_init 5 = .ok (.sipush 700, 3) := by decide +kernel
theorem dX6_init_8 : decode cX6_init 8 = .ok (.newarray .int, 2) := by decide +kernel
theorem dX6_init_10 : decode cX6_init 10 = .ok (.putfield 9, 3) := by decide +kernel
theorem dX6_init_13 : decode cX6_init 13 = .ok (.aload_n 0, 1) := by decide +kernel
theorem dX6_init_14 : decode cX6_init 14 = .ok (.iconst 0, 1) := by decide +kernel
theorem dX6_init_15 : decode cX6_init 15 = .ok (.putfield 15, 3) := by decide +kernel
theorem dX6_init_18 : decode cX6_init 18 = .ok (.return_, 1) := by decide +kernel
theorem dX6_append_0 : decode cX6_append 0 = .ok (.bipush 24, 2) := by decide +kernel
theorem dX6_append_2 : decode cX6_append 2 = .ok (.istore_n 2, 1) := by decide +kernel
theorem dX6_append_3 : decode cX6_append 3 = .ok (.iload_n 2, 1) := by decide +kernel
theorem dX6_append_4 : decode cX6_append 4 = .ok (.ifCond .lt 45, 3) := by decide +kernel
theorem dX6_append_7 : decode cX6_append 7 = .ok (.aload_n 0, 1) := by decide +kernel
theorem dX6_append_8 : decode cX6_append 8 = .ok (.getfield 15, 3) := by decide +kernel
theorem dX6_append_11 : decode cX6_append 11 = .ok (.sipush 700, 3) := by decide +kernel
theorem dX6_append_14 : decode cX6_append 14 = .ok (.if_icmp .ge 35, 3) := by decide +kernel
theorem dX6_append_17 : decode cX6_append 17 = .ok (.aload_n 0, 1) := by decide +kernel
theorem dX6_append_18 : decode cX6_append 18 = .ok (.getfield 9, 3) := by decide +kernel
theorem dX6_append_21 : decode cX6_append 21 = .ok (.aload_n 0, 1) := by decide +kernel
theorem dX6_append_22 : decode cX6_append 22 = .ok (.getfield 15, 3) := by decide +kernel
theorem dX6_append_25 : decode cX6_append 25 = .ok (.iload_n 1, 1) := by decide +kernel
theorem dX6_append_26 : decode cX6_append 26 = .ok (.iload_n 2, 1) := by decide +kernel
theorem dX6_append_27 : decode cX6_append 27 = .ok (.iushr, 1) := by decide +kernel
theorem dX6_append_28 : decode cX6_append 28 = .ok (.sipush 255, 3) := by decide +kernel
theorem dX6_append_31 : decode cX6_append 31 = .ok (.iand, 1) := by decide +kernel
theorem dX6_append_32 : decode cX6_append 32 = .ok (.iastore, 1) := by decide +kernel
theorem dX6_append_33 : decode cX6_append 33 = .ok (.aload_n 0, 1) := by decide +kernel
theorem dX6_append_34 : decode cX6_append 34 = .ok (.dup, 1) := by decide +kernel
theorem dX6_append_35 : decode cX6_append 35 = .ok (.getfield 15, 3) := by decide +kernel
theorem dX6_append_38 : decode cX6_append 38 = .ok (.iconst 1, 1) := by decide +kernel
theorem dX6_append_39 : decode cX6_append 39 = .ok (.iadd, 1) := by decide +kernel
theorem dX6_append_40 : decode cX6_append 40 = .ok (.putfield 15, 3) := by decide +kernel
theorem dX6_append_43 : decode cX6_append 43 = .ok (.iinc 2 (-8), 3) := by decide +kernel
theorem dX6_append_46 : decode cX6_append 46 = .ok (.goto (-43), 3) := by decide +kernel
theorem dX6_append_49 : decode cX6_append 49 = .ok (.return_, 1) := by decide +kernel
theorem dX6_byteAt_0 : decode cX6_byteAt 0 = .ok (.iload_n 1, 1) := by decide +kernel
theorem dX6_byteAt_1 : decode cX6_byteAt 1 = .ok (.ifCond .lt 20, 3) := by decide +kernel
theorem dX6_byteAt_4 : decode cX6_byteAt 4 = .ok (.iload_n 1, 1) := by decide +kernel
theorem dX6_byteAt_5 : decode cX6_byteAt 5 = .ok (.aload_n 0, 1) := by decide +kernel
theorem dX6_byteAt_6 : decode cX6_byteAt 6 = .ok (.getfield 15, 3) := by decide +kernel
theorem dX6_byteAt_9 : decode cX6_byteAt 9 = .ok (.if_icmp .ge 12, 3) := by decide +kernel
theorem dX6_byteAt_12 : decode cX6_byteAt 12 = .ok (.aload_n 0, 1) := by decide +kernel
theorem dX6_byteAt_13 : decode cX6_byteAt 13 = .ok (.getfield 9, 3) := by decide +kernel
theorem dX6_byteAt_16 : decode cX6_byteAt 16 = .ok (.iload_n 1, 1) := by decide +kernel
theorem dX6_byteAt_17 : decode cX6_byteAt 17 = .ok (.iaload, 1) := by decide +kernel
theorem dX6_byteAt_18 : decode cX6_byteAt 18 = .ok (.goto 4, 3) := by decide +kernel
theorem dX6_byteAt_21 : decode cX6_byteAt 21 = .ok (.iconst (-1), 1) := by decide +kernel
theorem dX6_byteAt_22 : decode cX6_byteAt 22 = .ok (.ireturn, 1) := by decide +kernel
theorem dX7_init_0 : decode cX7_init 0 = .ok (.aload_n 0, 1) := by decide +kernel
theorem dX7_init_1 : decode cX7_init 1 = .ok (.invokespecial 3, 3) := by decide +kernel
theorem dX7_init_4 : decode cX7_init 4 = .ok (.aload_n 0, 1) := by decide +kernel
theorem dX7_init_5 : decode cX7_init 5 = .ok (.iconst 0, 1) := by decide +kernel
theorem dX7_init_6 : decode cX7_init 6 = .ok (.putfield 11, 3) := by decide +kernel
theorem dX7_init_9 : decode cX7_init 9 = .ok (.aload_n 0, 1) := by decide +kernel
theorem dX7_init_10 : decode cX7_init 10 = .ok (.iconst 0, 1) := by decide +kernel
theorem dX7_init_11 : decode cX7_init 11 = .ok (.putfield 15, 3) := by decide +kernel
theorem dX7_init_14 : decode cX7_init 14 = .ok (.aload_n 0, 1) := by decide +kernel
theorem dX7_init_15 : decode cX7_init 15 = .ok (.iconst 0, 1) := by decide +kernel
theorem dX7_init_16 : decode cX7_init 16 = .ok (.putfield 18, 3) := by decide +kernel
theorem dX7_init_19 : decode cX7_init 19 = .ok (.aload_n 0, 1) := by decide +kernel
theorem dX7_init_20 : decode cX7_init 20 = .ok (.iconst (-1), 1) := by decide +kernel
theorem dX7_init_21 : decode cX7_init 21 = .ok (.putfield 21, 3) := by decide +kernel
theorem dX7_init_24 : decode cX7_init 24 = .ok (.aload_n 0, 1) := by decide +kernel
theorem dX7_init_25 : decode cX7_init 25 = .ok (.iconst 0, 1) := by decide +kernel
theorem dX7_init_26 : decode cX7_init 26 = .ok (.putfield 24, 3) := by decide +kernel
theorem dX7_init_29 : decode cX7_init 29 = .ok (.aload_n 0, 1) := by decide +kernel
theorem dX7_init_30 : decode cX7_init 30 = .ok (.iconst 0, 1) := by decide +kernel
theorem dX7_init_31 : decode cX7_init 31 = .ok (.putfield 27, 3) := by decide +kernel
theorem dX7_init_34 : decode cX7_init 34 = .ok (.aload_n 0, 1) := by decide +kernel
theorem dX7_init_35 : decode cX7_init 35 = .ok (.aload_n 1, 1) := by decide +kernel
theorem dX7_init_36 : decode cX7_init 36 = .ok (.putfield 31, 3) := by decide +kernel
theorem dX7_init_39 : decode cX7_init 39 = .ok (.return_, 1) := by decide +kernel
theorem dX7_begin_0 : decode cX7_begin 0 = .ok (.aload_n 0, 1) := by decide +kernel
theorem dX7_begin_1 : decode cX7_begin 1 = .ok (.iconst 0, 1) := by decide +kernel
theorem dX7_begin_2 : decode cX7_begin 2 = .ok (.putfield 24, 3) := by decide +kernel
theorem dX7_begin_5 : decode cX7_begin 5 = .ok (.aload_n 0, 1) := by decide +kernel
theorem dX7_begin_6 : decode cX7_begin 6 = .ok (.iconst 0, 1) := by decide +kernel
theorem dX7_begin_7 : decode cX7_begin 7 = .ok (.putfield 27, 3) := by decide +kernel
theorem dX7_begin_10 : decode cX7_begin 10 = .ok (.aload_n 0, 1) := by decide +kernel
theorem dX7_begin_11 : decode cX7_begin 11 = .ok (.invokevirtual 35, 3) := by decide +kernel
theorem dX7_begin_14 : decode cX7_begin 14 = .ok (.return_, 1) := by decide +kernel
theorem dX7_stop_0 : decode cX7_stop 0 = .ok (.aload_n 0, 1) := by decide +kernel
theorem dX7_stop_1 : decode cX7_stop 1 = .ok (.iconst 1, 1) := by decide +kernel
theorem dX7_stop_2 : decode cX7_stop 2 = .ok (.putfield 27, 3) := by decide +kernel
theorem dX7_stop_5 : decode cX7_stop 5 = .ok (.return_, 1) := by decide +kernel
theorem dX7_advance_0 : decode cX7_advance 0 = .ok (.aload_n 0, 1) := by decide +kernel
theorem dX7_advance_1 : decode cX7_advance 1 = .ok (.getfield 27, 3) := by decide +kernel
theorem dX7_advance_4 : decode cX7_advance 4 = .ok (.ifCond .eq 4, 3) := by decide +kernel
theorem dX7_advance_7 : decode cX7_advance 7 = .ok (.return_, 1) := by decide +kernel
theorem dX7_advance_8 : decode cX7_advance 8 = .ok (.aload_n 0, 1) := by decide +kernel
theorem dX7_advance_9 : decode cX7_advance 9 = .ok (.invokevirtual 38, 3) := by decide +kernel
theorem dX7_advance_12 : decode cX7_advance 12 = .ok (.aload_n 0, 1) := by decide +kernel
theorem dX7_advance_13 : decode cX7_advance 13 = .ok (.aload_n 0, 1) := by decide +kernel
theorem dX7_advance_14 : decode cX7_advance 14 = .ok (.getfield 24, 3) := by decide +kernel
theorem dX7_advance_17 : decode cX7_advance 17 = .ok (.putfield 15, 3) := by decide +kernel
theorem dX7_advance_20 : decode cX7_advance 20 = .ok (.aload_n 0, 1) := by decide +kernel
theorem dX7_advance_21 : decode cX7_advance 21 = .ok (.getfield 31, 3) := by decide +kernel
theorem dX7_advance_24 : decode cX7_advance 24 = .ok (.aload_n 0, 1) := by decide +kernel
theorem dX7_advance_25 : decode cX7_advance 25 = .ok (.getfield 15, 3) := by decide +kernel
theorem dX7_advance_28 : decode cX7_advance 28 = .ok (.invokevirtual 41, 3) := by decide +kernel
theorem dX7_advance_31 : decode cX7_advance 31 = .ok (.istore_n 1, 1) := by decide +kernel
theorem dX7_advance_32 : decode cX7_advance 32 = .ok (.iload_n 1, 1) := by decide +kernel
theorem dX7_advance_33 : decode cX7_advance 33 = .ok (.iconst (-1), 1) := by decide +kernel
theorem dX7_advance_34 : decode cX7_advance 34 = .ok (.if_icmp .ne 11, 3) := by decide +kernel
theorem dX7_advance_37 : decode cX7_advance 37 = .ok (.aload_n 0, 1) := by decide +kernel
theorem dX7_advance_38 : decode cX7_advance 38 = .ok (.iconst 0, 1) := by decide +kernel
theorem dX7_advance_39 : decode cX7_advance 39 = .ok (.putfield 11, 3) := by decide +kernel
theorem dX7_advance_42 : decode cX7_advance 42 = .ok (.goto 76, 3) := by decide +kernel
theorem dX7_advance_45 : decode cX7_advance 45 = .ok (.iload_n 1, 1) := by decide +kernel
theorem dX7_advance_46 : decode cX7_advance 46 = .ok (.invokestatic 47, 3) := by decide +kernel
theorem dX7_advance_49 : decode cX7_advance 49 = .ok (.ifCond .eq 15, 3) := by decide +kernel
theorem dX7_advance_52 : decode cX7_advance 52 = .ok (.aload_n 0, 1) := by decide +kernel
theorem dX7_advance_53 : decode cX7_advance 53 = .ok (.iconst 1, 1) := by decide +kernel
theorem dX7_advance_54 : decode cX7_advance 54 = .ok (.putfield 11, 3) := by decide +kernel
theorem dX7_advance_57 : decode cX7_advance 57 = .ok (.aload_n 0, 1) := by decide +kernel
theorem dX7_advance_58 : decode cX7_advance 58 = .ok (.invokevirtual 51, 3) := by decide +kernel
theorem dX7_advance_61 : decode cX7_advance 61 = .ok (.goto 57, 3) := by decide +kernel
theorem dX7_advance_64 : decode cX7_advance 64 = .ok (.iload_n 1, 1) := by decide +kernel
theorem dX7_advance_65 : decode cX7_advance 65 = .ok (.invokestatic 54, 3) := by decide +kernel
theorem dX7_advance_68 : decode cX7_advance 68 = .ok (.ifCond .eq 15, 3) := by decide +kernel
theorem dX7_advance_71 : decode cX7_advance 71 = .ok (.aload_n 0, 1) := by decide +kernel
theorem dX7_advance_72 : decode cX7_advance 72 = .ok (.iconst 2, 1) := by decide +kernel
theorem dX7_advance_73 : decode cX7_advance 73 = .ok (.putfield 11, 3) := by decide +kernel
theorem dX7_advance_76 : decode cX7_advance 76 = .ok (.aload_n 0, 1) := by decide +kernel
theorem dX7_advance_77 : decode cX7_advance 77 = .ok (.invokevirtual 57, 3) := by decide +kernel
theorem dX7_advance_80 : decode cX7_advance 80 = .ok (.goto 38, 3) := by decide +kernel
theorem dX7_advance_83 : decode cX7_advance 83 = .ok (.aload_n 0, 1) := by decide +kernel
theorem dX7_advance_84 : decode cX7_advance 84 = .ok (.iload_n 1, 1) := by decide +kernel
theorem dX7_advance_85 : decode cX7_advance 85 = .ok (.bipush 59, 2) := by decide +kernel
theorem dX7_advance_87 : decode cX7_advance 87 = .ok (.if_icmp .ne 7, 3) := by decide +kernel
theorem dX7_advance_90 : decode cX7_advance 90 = .ok (.iconst 3, 1) := by decide +kernel
theorem dX7_advance_91 : decode cX7_advance 91 = .ok (.goto 14, 3) := by decide +kernel
theorem dX7_advance_94 : decode cX7_advance 94 = .ok (.iload_n 1, 1) := by decide +kernel
theorem dX7_advance_95 : decode cX7_advance 95 = .ok (.bipush 45, 2) := by decide +kernel
theorem dX7_advance_97 : decode cX7_advance 97 = .ok (.if_icmp .ne 7, 3) := by decide +kernel
theorem dX7_advance_100 : decode cX7_advance 100 = .ok (.iconst 4, 1) := by decide +kernel
theorem dX7_advance_101 : decode cX7_advance 101 = .ok (.goto 4, 3) := by decide +kernel
theorem dX7_advance_104 : decode cX7_advance 104 = .ok (.iconst 5, 1) := by decide +kernel
theorem dX7_advance_105 : decode cX7_advance 105 = .ok (.putfield 11, 3) := by decide +kernel
theorem dX7_advance_108 : decode cX7_advance 108 = .ok (.aload_n 0, 1) := by decide +kernel
theorem dX7_advance_109 : decode cX7_advance 109 = .ok (.aload_n 0, 1) := by decide +kernel
theorem dX7_advance_110 : decode cX7_advance 110 = .ok (.getfield 15, 3) := by decide +kernel
theorem dX7_advance_113 : decode cX7_advance 113 = .ok (.iconst 1, 1) := by decide +kernel
theorem dX7_advance_114 : decode cX7_advance 114 = .ok (.iadd, 1) := by decide +kernel
theorem dX7_advance_115 : decode cX7_advance 115 = .ok (.putfield 24, 3) := by decide +kernel
theorem dX7_advance_118 : decode cX7_advance 118 = .ok (.return_, 1) := by decide +kernel
theorem dX7_is_0 : decode cX7_is 0 = .ok (.aload_n 0, 1) := by decide +kernel
theorem dX7_is_1 : decode cX7_is 1 = .ok (.getfield 11, 3) := by decide +kernel
theorem dX7_is_4 : decode cX7_is 4 = .ok (.iconst 1, 1) := by decide +kernel
theorem dX7_is_5 : decode cX7_is 5 = .ok (.if_icmp .ne 19, 3) := by decide +kernel
theorem dX7_is_8 : decode cX7_is 8 = .ok (.aload_n 0, 1) := by decide +kernel
theorem dX7_is_9 : decode cX7_is 9 = .ok (.getfield 24, 3) := by decide +kernel
theorem dX7_is_12 : decode cX7_is 12 = .ok (.aload_n 0, 1) := by decide +kernel
theorem dX7_is_13 : decode cX7_is 13 = .ok (.getfield 15, 3) := by decide +kernel
theorem dX7_is_16 : decode cX7_is 16 = .ok (.isub, 1) := by decide +kernel
theorem dX7_is_17 : decode cX7_is 17 = .ok (.aload_n 1, 1) := by decide +kernel
theorem dX7_is_18 : decode cX7_is 18 = .ok (.invokevirtual 60, 3) := by decide +kernel
theorem dX7_is_21 : decode cX7_is 21 = .ok (.if_icmp .eq 5, 3) := by decide +kernel
theorem dX7_is_24 : decode cX7_is 24 = .ok (.iconst 0, 1) := by decide +kernel
theorem dX7_is_25 : decode cX7_is 25 = .ok (.ireturn, 1) := by decide +kernel
theorem dX7_is_26 : decode cX7_is 26 = .ok (.iconst 0, 1) := by decide +kernel
theorem dX7_is_27 : decode cX7_is 27 = .ok (.istore_n 2, 1) := by decide +kernel
theorem dX7_is_28 : decode cX7_is 28 = .ok (.iload_n 2, 1) := by decide +kernel
theorem dX7_is_29 : decode cX7_is 29 = .ok (.aload_n 1, 1) := by decide +kernel
theorem dX7_is_30 : decode cX7_is 30 = .ok (.invokevirtual 60, 3) := by decide +kernel
theorem dX7_is_33 : decode cX7_is 33 = .ok (.if_icmp .ge 32, 3) := by decide +kernel
theorem dX7_is_36 : decode cX7_is 36 = .ok (.aload_n 0, 1) := by decide +kernel
theorem dX7_is_37 : decode cX7_is 37 = .ok (.getfield 31, 3) := by decide +kernel
theorem dX7_is_40 : decode cX7_is 40 = .ok (.aload_n 0, 1) := by decide +kernel
theorem dX7_is_41 : decode cX7_is 41 = .ok (.getfield 15, 3) := by decide +kernel
theorem dX7_is_44 : decode cX7_is 44 = .ok (.iload_n 2, 1) := by decide +kernel
theorem dX7_is_45 : decode cX7_is 45 = .ok (.iadd, 1) := by decide +kernel
theorem dX7_is_46 : decode cX7_is 46 = .ok (.invokevirtual 41, 3) := by decide +kernel
theorem dX7_is_49 : decode cX7_is 49 = .ok (.aload_n 1, 1) := by decide +kernel
theorem dX7_is_50 : decode cX7_is 50 = .ok (.iload_n 2, 1) := by decide +kernel
theorem dX7_is_51 : decode cX7_is 51 = .ok (.invokevirtual 66, 3) := by decide +kernel
end
section
theorem dX7_is_54 : decode cX7_is 54 = .ok (.if_icmp .eq 5, 3) := by decide +kernel
theorem dX7_is_57 : decode cX7_is 57 = .ok (.iconst 0, 1) := by decide +kernel
theorem dX7_is_58 : decode cX7_is 58 = .ok (.ireturn, 1) := by decide +kernel
theorem dX7_is_59 : decode cX7_is 59 = .ok (.iinc 2 1, 3) := by decide +kernel
theorem dX7_is_62 : decode cX7_is 62 = .ok (.goto (-34), 3) := by decide +kernel
theorem dX7_is_65 : decode cX7_is 65 = .ok (.iconst 1, 1) := by decide +kernel
theorem dX7_is_66 : decode cX7_is 66 = .ok (.ireturn, 1) := by decide +kernel
theorem dX7_isLineWord_0 : decode cX7_isLineWord 0 = .ok (.aload_n 0, 1) := by decide +kernel
theorem dX7_isLineWord_1 : decode cX7_isLineWord 1 = .ok (.ldc 70, 2) := by decide +kernel
theorem dX7_isLineWord_3 : decode cX7_isLineWord 3 = .ok (.invokevirtual 72, 3) := by decide +kernel
theorem dX7_isLineWord_6 : decode cX7_isLineWord 6 = .ok (.ifCond .ne 30, 3) := by decide +kernel
theorem dX7_isLineWord_9 : decode cX7_isLineWord 9 = .ok (.aload_n 0, 1) := by decide +kernel
theorem dX7_isLineWord_10 : decode cX7_isLineWord 10 = .ok (.ldc 76, 2) := by decide +kernel
theorem dX7_isLineWord_12 : decode cX7_isLineWord 12 = .ok (.invokevirtual 72, 3) := by decide +kernel
theorem dX7_isLineWord_15 : decode cX7_isLineWord 15 = .ok (.ifCond .ne 21, 3) := by decide +kernel
theorem dX7_isLineWord_18 : decode cX7_isLineWord 18 = .ok (.aload_n 0, 1) := by decide +kernel
theorem dX7_isLineWord_19 : decode cX7_isLineWord 19 = .ok (.ldc 78, 2) := by decide +kernel
theorem dX7_isLineWord_21 : decode cX7_isLineWord 21 = .ok (.invokevirtual 72, 3) := by decide +kernel
theorem dX7_isLineWord_24 : decode cX7_isLineWord 24 = .ok (.ifCond .ne 12, 3) := by decide +kernel
theorem dX7_isLineWord_27 : decode cX7_isLineWord 27 = .ok (.aload_n 0, 1) := by decide +kernel
theorem dX7_isLineWord_28 : decode cX7_isLineWord 28 = .ok (.ldc 80, 2) := by decide +kernel
theorem dX7_isLineWord_30 : decode cX7_isLineWord 30 = .ok (.invokevirtual 72, 3) := by decide +kernel
theorem dX7_isLineWord_33 : decode cX7_isLineWord 33 = .ok (.ifCond .eq 7, 3) := by decide +kernel
theorem dX7_isLineWord_36 : decode cX7_isLineWord 36 = .ok (.iconst 1, 1) := by decide +kernel
theorem dX7_isLineWord_37 : decode cX7_isLineWord 37 = .ok (.goto 4, 3) := by decide +kernel
theorem dX7_isLineWord_40 : decode cX7_isLineWord 40 = .ok (.iconst 0, 1) := by decide +kernel
theorem dX7_isLineWord_41 : decode cX7_isLineWord 41 = .ok (.ireturn, 1) := by decide +kernel
theorem dX7_operation_0 : decode cX7_operation 0 = .ok (.aload_n 0, 1) := by decide +kernel
theorem dX7_operation_1 : decode cX7_operation 1 = .ok (.ldc 82, 2) := by decide +kernel
theorem dX7_operation_3 : decode cX7_operation 3 = .ok (.invokevirtual 72, 3) := by decide +kernel
theorem dX7_operation_6 : decode cX7_operation 6 = .ok (.ifCond .eq 5, 3) := by decide +kernel
theorem dX7_operation_9 : decode cX7_operation 9 = .ok (.iconst 0, 1) := by decide +kernel
theorem dX7_operation_10 : decode cX7_operation 10 = .ok (.ireturn, 1) := by decide +kernel
theorem dX7_operation_11 : decode cX7_operation 11 = .ok (.aload_n 0, 1) := by decide +kernel
theorem dX7_operation_12 : decode cX7_operation 12 = .ok (.ldc 84, 2) := by decide +kernel
theorem dX7_operation_14 : decode cX7_operation 14 = .ok (.invokevirtual 72, 3) := by decide +kernel
theorem dX7_operation_17 : decode cX7_operation 17 = .ok (.ifCond .eq 5, 3) := by decide +kernel
theorem dX7_operation_20 : decode cX7_operation 20 = .ok (.iconst 1, 1) := by decide +kernel
theorem dX7_operation_21 : decode cX7_operation 21 = .ok (.ireturn, 1) := by decide +kernel
theorem dX7_operation_22 : decode cX7_operation 22 = .ok (.aload_n 0, 1) := by decide +kernel
theorem dX7_operation_23 : decode cX7_operation 23 = .ok (.ldc 86, 2) := by decide +kernel
theorem dX7_operation_25 : decode cX7_operation 25 = .ok (.invokevirtual 72, 3) := by decide +kernel
theorem dX7_operation_28 : decode cX7_operation 28 = .ok (.ifCond .eq 5, 3) := by decide +kernel
theorem dX7_operation_31 : decode cX7_operation 31 = .ok (.iconst 2, 1) := by decide +kernel
theorem dX7_operation_32 : decode cX7_operation 32 = .ok (.ireturn, 1) := by decide +kernel
theorem dX7_operation_33 : decode cX7_operation 33 = .ok (.aload_n 0, 1) := by decide +kernel
theorem dX7_operation_34 : decode cX7_operation 34 = .ok (.ldc 88, 2) := by decide +kernel
theorem dX7_operation_36 : decode cX7_operation 36 = .ok (.invokevirtual 72, 3) := by decide +kernel
theorem dX7_operation_39 : decode cX7_operation 39 = .ok (.ifCond .eq 5, 3) := by decide +kernel
theorem dX7_operation_42 : decode cX7_operation 42 = .ok (.iconst 3, 1) := by decide +kernel
theorem dX7_operation_43 : decode cX7_operation 43 = .ok (.ireturn, 1) := by decide +kernel
theorem dX7_operation_44 : decode cX7_operation 44 = .ok (.aload_n 0, 1) := by decide +kernel
theorem dX7_operation_45 : decode cX7_operation 45 = .ok (.ldc 90, 2) := by decide +kernel
theorem dX7_operation_47 : decode cX7_operation 47 = .ok (.invokevirtual 72, 3) := by decide +kernel
theorem dX7_operation_50 : decode cX7_operation 50 = .ok (.ifCond .eq 5, 3) := by decide +kernel
theorem dX7_operation_53 : decode cX7_operation 53 = .ok (.iconst 4, 1) := by decide +kernel
theorem dX7_operation_54 : decode cX7_operation 54 = .ok (.ireturn, 1) := by decide +kernel
theorem dX7_operation_55 : decode cX7_operation 55 = .ok (.aload_n 0, 1) := by decide +kernel
theorem dX7_operation_56 : decode cX7_operation 56 = .ok (.ldc 92, 2) := by decide +kernel
theorem dX7_operation_58 : decode cX7_operation 58 = .ok (.invokevirtual 72, 3) := by decide +kernel
theorem dX7_operation_61 : decode cX7_operation 61 = .ok (.ifCond .eq 5, 3) := by decide +kernel
theorem dX7_operation_64 : decode cX7_operation 64 = .ok (.iconst 5, 1) := by decide +kernel
theorem dX7_operation_65 : decode cX7_operation 65 = .ok (.ireturn, 1) := by decide +kernel
theorem dX7_operation_66 : decode cX7_operation 66 = .ok (.aload_n 0, 1) := by decide +kernel
theorem dX7_operation_67 : decode cX7_operation 67 = .ok (.ldc 94, 2) := by decide +kernel
theorem dX7_operation_69 : decode cX7_operation 69 = .ok (.invokevirtual 72, 3) := by decide +kernel
theorem dX7_operation_72 : decode cX7_operation 72 = .ok (.ifCond .eq 6, 3) := by decide +kernel
theorem dX7_operation_75 : decode cX7_operation 75 = .ok (.bipush 6, 2) := by decide +kernel
theorem dX7_operation_77 : decode cX7_operation 77 = .ok (.ireturn, 1) := by decide +kernel
theorem dX7_operation_78 : decode cX7_operation 78 = .ok (.aload_n 0, 1) := by decide +kernel
theorem dX7_operation_79 : decode cX7_operation 79 = .ok (.ldc 96, 2) := by decide +kernel
theorem dX7_operation_81 : decode cX7_operation 81 = .ok (.invokevirtual 72, 3) := by decide +kernel
theorem dX7_operation_84 : decode cX7_operation 84 = .ok (.ifCond .eq 8, 3) := by decide +kernel
theorem dX7_operation_87 : decode cX7_operation 87 = .ok (.bipush 7, 2) := by decide +kernel
theorem dX7_operation_89 : decode cX7_operation 89 = .ok (.goto 4, 3) := by decide +kernel
theorem dX7_operation_92 : decode cX7_operation 92 = .ok (.iconst (-1), 1) := by decide +kernel
theorem dX7_operation_93 : decode cX7_operation 93 = .ok (.ireturn, 1) := by decide +kernel
theorem dX7_skipBlanks_0 : decode cX7_skipBlanks 0 = .ok (.aload_n 0, 1) := by decide +kernel
theorem dX7_skipBlanks_1 : decode cX7_skipBlanks 1 = .ok (.getfield 24, 3) := by decide +kernel
theorem dX7_skipBlanks_4 : decode cX7_skipBlanks 4 = .ok (.sipush 700, 3) := by decide +kernel
theorem dX7_skipBlanks_7 : decode cX7_skipBlanks 7 = .ok (.if_icmp .ge 33, 3) := by decide +kernel
theorem dX7_skipBlanks_10 : decode cX7_skipBlanks 10 = .ok (.aload_n 0, 1) := by decide +kernel
theorem dX7_skipBlanks_11 : decode cX7_skipBlanks 11 = .ok (.getfield 31, 3) := by decide +kernel
theorem dX7_skipBlanks_14 : decode cX7_skipBlanks 14 = .ok (.aload_n 0, 1) := by decide +kernel
theorem dX7_skipBlanks_15 : decode cX7_skipBlanks 15 = .ok (.getfield 24, 3) := by decide +kernel
theorem dX7_skipBlanks_18 : decode cX7_skipBlanks 18 = .ok (.invokevirtual 41, 3) := by decide +kernel
theorem dX7_skipBlanks_21 : decode cX7_skipBlanks 21 = .ok (.invokestatic 98, 3) := by decide +kernel
theorem dX7_skipBlanks_24 : decode cX7_skipBlanks 24 = .ok (.ifCond .eq 16, 3) := by decide +kernel
theorem dX7_skipBlanks_27 : decode cX7_skipBlanks 27 = .ok (.aload_n 0, 1) := by decide +kernel
theorem dX7_skipBlanks_28 : decode cX7_skipBlanks 28 = .ok (.dup, 1) := by decide +kernel
theorem dX7_skipBlanks_29 : decode cX7_skipBlanks 29 = .ok (.getfield 24, 3) := by decide +kernel
theorem dX7_skipBlanks_32 : decode cX7_skipBlanks 32 = .ok (.iconst 1, 1) := by decide +kernel
theorem dX7_skipBlanks_33 : decode cX7_skipBlanks 33 = .ok (.iadd, 1) := by decide +kernel
theorem dX7_skipBlanks_34 : decode cX7_skipBlanks 34 = .ok (.putfield 24, 3) := by decide +kernel
theorem dX7_skipBlanks_37 : decode cX7_skipBlanks 37 = .ok (.goto (-37), 3) := by decide +kernel
theorem dX7_skipBlanks_40 : decode cX7_skipBlanks 40 = .ok (.return_, 1) := by decide +kernel
theorem dX7_takeLetters_0 : decode cX7_takeLetters 0 = .ok (.aload_n 0, 1) := by decide +kernel
theorem dX7_takeLetters_1 : decode cX7_takeLetters 1 = .ok (.iconst 0, 1) := by decide +kernel
theorem dX7_takeLetters_2 : decode cX7_takeLetters 2 = .ok (.putfield 21, 3) := by decide +kernel
theorem dX7_takeLetters_5 : decode cX7_takeLetters 5 = .ok (.aload_n 0, 1) := by decide +kernel
theorem dX7_takeLetters_6 : decode cX7_takeLetters 6 = .ok (.getfield 24, 3) := by decide +kernel
theorem dX7_takeLetters_9 : decode cX7_takeLetters 9 = .ok (.sipush 700, 3) := by decide +kernel
theorem dX7_takeLetters_12 : decode cX7_takeLetters 12 = .ok (.if_icmp .ge 89, 3) := by decide +kernel
theorem dX7_takeLetters_15 : decode cX7_takeLetters 15 = .ok (.aload_n 0, 1) := by decide +kernel
theorem dX7_takeLetters_16 : decode cX7_takeLetters 16 = .ok (.getfield 31, 3) := by decide +kernel
theorem dX7_takeLetters_19 : decode cX7_takeLetters 19 = .ok (.aload_n 0, 1) := by decide +kernel
theorem dX7_takeLetters_20 : decode cX7_takeLetters 20 = .ok (.getfield 24, 3) := by decide +kernel
theorem dX7_takeLetters_23 : decode cX7_takeLetters 23 = .ok (.invokevirtual 41, 3) := by decide +kernel
theorem dX7_takeLetters_26 : decode cX7_takeLetters 26 = .ok (.invokestatic 47, 3) := by decide +kernel
theorem dX7_takeLetters_29 : decode cX7_takeLetters 29 = .ok (.ifCond .eq 72, 3) := by decide +kernel
theorem dX7_takeLetters_32 : decode cX7_takeLetters 32 = .ok (.aload_n 0, 1) := by decide +kernel
theorem dX7_takeLetters_33 : decode cX7_takeLetters 33 = .ok (.getfield 24, 3) := by decide +kernel
theorem dX7_takeLetters_36 : decode cX7_takeLetters 36 = .ok (.aload_n 0, 1) := by decide +kernel
theorem dX7_takeLetters_37 : decode cX7_takeLetters 37 = .ok (.getfield 15, 3) := by decide +kernel
theorem dX7_takeLetters_40 : decode cX7_takeLetters 40 = .ok (.isub, 1) := by decide +kernel
theorem dX7_takeLetters_41 : decode cX7_takeLetters 41 = .ok (.bipush 6, 2) := by decide +kernel
theorem dX7_takeLetters_43 : decode cX7_takeLetters 43 = .ok (.if_icmp .ge 7, 3) := by decide +kernel
theorem dX7_takeLetters_46 : decode cX7_takeLetters 46 = .ok (.iconst 1, 1) := by decide +kernel
theorem dX7_takeLetters_47 : decode cX7_takeLetters 47 = .ok (.goto 4, 3) := by decide +kernel
theorem dX7_takeLetters_50 : decode cX7_takeLetters 50 = .ok (.iconst 0, 1) := by decide +kernel
theorem dX7_takeLetters_51 : decode cX7_takeLetters 51 = .ok (.istore_n 1, 1) := by decide +kernel
theorem dX7_takeLetters_52 : decode cX7_takeLetters 52 = .ok (.aload_n 0, 1) := by decide +kernel
theorem dX7_takeLetters_53 : decode cX7_takeLetters 53 = .ok (.iload_n 1, 1) := by decide +kernel
theorem dX7_takeLetters_54 : decode cX7_takeLetters 54 = .ok (.ifCond .eq 30, 3) := by decide +kernel
theorem dX7_takeLetters_57 : decode cX7_takeLetters 57 = .ok (.aload_n 0, 1) := by decide +kernel
theorem dX7_takeLetters_58 : decode cX7_takeLetters 58 = .ok (.getfield 21, 3) := by decide +kernel
theorem dX7_takeLetters_61 : decode cX7_takeLetters 61 = .ok (.bipush 27, 2) := by decide +kernel
theorem dX7_takeLetters_63 : decode cX7_takeLetters 63 = .ok (.imul, 1) := by decide +kernel
theorem dX7_takeLetters_64 : decode cX7_takeLetters 64 = .ok (.aload_n 0, 1) := by decide +kernel
theorem dX7_takeLetters_65 : decode cX7_takeLetters 65 = .ok (.getfield 31, 3) := by decide +kernel
theorem dX7_takeLetters_68 : decode cX7_takeLetters 68 = .ok (.aload_n 0, 1) := by decide +kernel
theorem dX7_takeLetters_69 : decode cX7_takeLetters 69 = .ok (.getfield 24, 3) := by decide +kernel
theorem dX7_takeLetters_72 : decode cX7_takeLetters 72 = .ok (.invokevirtual 41, 3) := by decide +kernel
theorem dX7_takeLetters_75 : decode cX7_takeLetters 75 = .ok (.iadd, 1) := by decide +kernel
theorem dX7_takeLetters_76 : decode cX7_takeLetters 76 = .ok (.bipush 97, 2) := by decide +kernel
theorem dX7_takeLetters_78 : decode cX7_takeLetters 78 = .ok (.isub, 1) := by decide +kernel
theorem dX7_takeLetters_79 : decode cX7_takeLetters 79 = .ok (.iconst 1, 1) := by decide +kernel
theorem dX7_takeLetters_80 : decode cX7_takeLetters 80 = .ok (.iadd, 1) := by decide +kernel
theorem dX7_takeLetters_81 : decode cX7_takeLetters 81 = .ok (.goto 4, 3) := by decide +kernel
theorem dX7_takeLetters_84 : decode cX7_takeLetters 84 = .ok (.iconst (-1), 1) := by decide +kernel
theorem dX7_takeLetters_85 : decode cX7_takeLetters 85 = .ok (.putfield 21, 3) := by decide +kernel
theorem dX7_takeLetters_88 : decode cX7_takeLetters 88 = .ok (.aload_n 0, 1) := by decide +kernel
theorem dX7_takeLetters_89 : decode cX7_takeLetters 89 = .ok (.dup, 1) := by decide +kernel
theorem dX7_takeLetters_90 : decode cX7_takeLetters 90 = .ok (.getfield 24, 3) := by decide +kernel
theorem dX7_takeLetters_93 : decode cX7_takeLetters 93 = .ok (.iconst 1, 1) := by decide +kernel
theorem dX7_takeLetters_94 : decode cX7_takeLetters 94 = .ok (.iadd, 1) := by decide +kernel
theorem dX7_takeLetters_95 : decode cX7_takeLetters 95 = .ok (.putfield 24, 3) := by decide +kernel
theorem dX7_takeLetters_98 : decode cX7_takeLetters 98 = .ok (.goto (-93), 3) := by decide +kernel
theorem dX7_takeLetters_101 : decode cX7_takeLetters 101 = .ok (.return_, 1) := by decide +kernel
theorem dX7_takeDigits_0 : decode cX7_takeDigits 0 = .ok (.aload_n 0, 1) := by decide +kernel
theorem dX7_takeDigits_1 : decode cX7_takeDigits 1 = .ok (.iconst 0, 1) := by decide +kernel
theorem dX7_takeDigits_2 : decode cX7_takeDigits 2 = .ok (.putfield 18, 3) := by decide +kernel
theorem dX7_takeDigits_5 : decode cX7_takeDigits 5 = .ok (.aload_n 0, 1) := by decide +kernel
theorem dX7_takeDigits_6 : decode cX7_takeDigits 6 = .ok (.getfield 24, 3) := by decide +kernel
theorem dX7_takeDigits_9 : decode cX7_takeDigits 9 = .ok (.sipush 700, 3) := by decide +kernel
theorem dX7_takeDigits_12 : decode cX7_takeDigits 12 = .ok (.if_icmp .ge 64, 3) := by decide +kernel
theorem dX7_takeDigits_15 : decode cX7_takeDigits 15 = .ok (.aload_n 0, 1) := by decide +kernel
theorem dX7_takeDigits_16 : decode cX7_takeDigits 16 = .ok (.getfield 31, 3) := by decide +kernel
theorem dX7_takeDigits_19 : decode cX7_takeDigits 19 = .ok (.aload_n 0, 1) := by decide +kernel
theorem dX7_takeDigits_20 : decode cX7_takeDigits 20 = .ok (.getfield 24, 3) := by decide +kernel
theorem dX7_takeDigits_23 : decode cX7_takeDigits 23 = .ok (.invokevirtual 41, 3) := by decide +kernel
theorem dX7_takeDigits_26 : decode cX7_takeDigits 26 = .ok (.invokestatic 54, 3) := by decide +kernel
theorem dX7_takeDigits_29 : decode cX7_takeDigits 29 = .ok (.ifCond .eq 47, 3) := by decide +kernel
theorem dX7_takeDigits_32 : decode cX7_takeDigits 32 = .ok (.aload_n 0, 1) := by decide +kernel
theorem dX7_takeDigits_33 : decode cX7_takeDigits 33 = .ok (.aload_n 0, 1) := by decide +kernel
theorem dX7_takeDigits_34 : decode cX7_takeDigits 34 = .ok (.getfield 18, 3) := by decide +kernel
theorem dX7_takeDigits_37 : decode cX7_takeDigits 37 = .ok (.bipush 10, 2) := by decide +kernel
theorem dX7_takeDigits_39 : decode cX7_takeDigits 39 = .ok (.imul, 1) := by decide +kernel
theorem dX7_takeDigits_40 : decode cX7_takeDigits 40 = .ok (.aload_n 0, 1) := by decide +kernel
theorem dX7_takeDigits_41 : decode cX7_takeDigits 41 = .ok (.getfield 31, 3) := by decide +kernel
theorem dX7_takeDigits_44 : decode cX7_takeDigits 44 = .ok (.aload_n 0, 1) := by decide +kernel
theorem dX7_takeDigits_45 : decode cX7_takeDigits 45 = .ok (.getfield 24, 3) := by decide +kernel
theorem dX7_takeDigits_48 : decode cX7_takeDigits 48 = .ok (.invokevirtual 41, 3) := by decide +kernel
theorem dX7_takeDigits_51 : decode cX7_takeDigits 51 = .ok (.iadd, 1) := by decide +kernel
theorem dX7_takeDigits_52 : decode cX7_takeDigits 52 = .ok (.bipush 48, 2) := by decide +kernel
theorem dX7_takeDigits_54 : decode cX7_takeDigits 54 = .ok (.isub, 1) := by decide +kernel
theorem dX7_takeDigits_55 : decode cX7_takeDigits 55 = .ok (.ldc 101, 2) := by decide +kernel
theorem dX7_takeDigits_57 : decode cX7_takeDigits 57 = .ok (.invokestatic 102, 3) := by decide +kernel
theorem dX7_takeDigits_60 : decode cX7_takeDigits 60 = .ok (.putfield 18, 3) := by decide +kernel
theorem dX7_takeDigits_63 : decode cX7_takeDigits 63 = .ok (.aload_n 0, 1) := by decide +kernel
theorem dX7_takeDigits_64 : decode cX7_takeDigits 64 = .ok (.dup, 1) := by decide +kernel
theorem dX7_takeDigits_65 : decode cX7_takeDigits 65 = .ok (.getfield 24, 3) := by decide +kernel
theorem dX7_takeDigits_68 : decode cX7_takeDigits 68 = .ok (.iconst 1, 1) := by decide +kernel
theorem dX7_takeDigits_69 : decode cX7_takeDigits 69 = .ok (.iadd, 1) := by decide +kernel
theorem dX7_takeDigits_70 : decode cX7_takeDigits 70 = .ok (.putfield 24, 3) := by decide +kernel
theorem dX7_takeDigits_73 : decode cX7_takeDigits 73 = .ok (.goto (-68), 3) := by decide +kernel
theorem dX7_takeDigits_76 : decode cX7_takeDigits 76 = .ok (.return_, 1) := by decide +kernel
theorem dX7_isBlank_0 : decode cX7_isBlank 0 = .ok (.iload_n 0, 1) := by decide +kernel
theorem dX7_isBlank_1 : decode cX7_isBlank 1 = .ok (.bipush 32, 2) := by decide +kernel
theorem dX7_isBlank_3 : decode cX7_isBlank 3 = .ok (.if_icmp .eq 9, 3) := by decide +kernel
theorem dX7_isBlank_6 : decode cX7_isBlank 6 = .ok (.iload_n 0, 1) := by decide +kernel
theorem dX7_isBlank_7 : decode cX7_isBlank 7 = .ok (.bipush 10, 2) := by decide +kernel
theorem dX7_isBlank_9 : decode cX7_isBlank 9 = .ok (.if_icmp .ne 7, 3) := by decide +kernel
theorem dX7_isBlank_12 : decode cX7_isBlank 12 = .ok (.iconst 1, 1) := by decide +kernel
theorem dX7_isBlank_13 : decode cX7_isBlank 13 = .ok (.goto 4, 3) := by decide +kernel
theorem dX7_isBlank_16 : decode cX7_isBlank 16 = .ok (.iconst 0, 1) := by decide +kernel
theorem dX7_isBlank_17 : decode cX7_isBlank 17 = .ok (.ireturn, 1) := by decide +kernel
theorem dX7_isLetter_0 : decode cX7_isLetter 0 = .ok (.iload_n 0, 1) := by decide +kernel
theorem dX7_isLetter_1 : decode cX7_isLetter 1 = .ok (.bipush 97, 2) := by decide +kernel
theorem dX7_isLetter_3 : decode cX7_isLetter 3 = .ok (.if_icmp .lt 13, 3) := by decide +kernel
theorem dX7_isLetter_6 : decode cX7_isLetter 6 = .ok (.iload_n 0, 1) := by decide +kernel
theorem dX7_isLetter_7 : decode cX7_isLetter 7 = .ok (.bipush 122, 2) := by decide +kernel
theorem dX7_isLetter_9 : decode cX7_isLetter 9 = .ok (.if_icmp .gt 7, 3) := by decide +kernel
theorem dX7_isLetter_12 : decode cX7_isLetter 12 = .ok (.iconst 1, 1) := by decide +kernel
theorem dX7_isLetter_13 : decode cX7_isLetter 13 = .ok (.goto 4, 3) := by decide +kernel
theorem dX7_isLetter_16 : decode cX7_isLetter 16 = .ok (.iconst 0, 1) := by decide +kernel
theorem dX7_isLetter_17 : decode cX7_isLetter 17 = .ok (.ireturn, 1) := by decide +kernel
theorem dX7_isDigit_0 : decode cX7_isDigit 0 = .ok (.iload_n 0, 1) := by decide +kernel
theorem dX7_isDigit_1 : decode cX7_isDigit 1 = .ok (.bipush 48, 2) := by decide +kernel
theorem dX7_isDigit_3 : decode cX7_isDigit 3 = .ok (.if_icmp .lt 13, 3) := by decide +kernel
theorem dX7_isDigit_6 : decode cX7_isDigit 6 = .ok (.iload_n 0, 1) := by decide +kernel
theorem dX7_isDigit_7 : decode cX7_isDigit 7 = .ok (.bipush 57, 2) := by decide +kernel
theorem dX7_isDigit_9 : decode cX7_isDigit 9 = .ok (.if_icmp .gt 7, 3) := by decide +kernel
theorem dX7_isDigit_12 : decode cX7_isDigit 12 = .ok (.iconst 1, 1) := by decide +kernel
theorem dX7_isDigit_13 : decode cX7_isDigit 13 = .ok (.goto 4, 3) := by decide +kernel
theorem dX7_isDigit_16 : decode cX7_isDigit 16 = .ok (.iconst 0, 1) := by decide +kernel
theorem dX7_isDigit_17 : decode cX7_isDigit 17 = .ok (.ireturn, 1) := by decide +kernel
theorem dX8_init_0 : decode cX8_init 0 = .ok (.aload_n 0, 1) := by decide +kernel
theorem dX8_init_1 : decode cX8_init 1 = .ok (.invokespecial 3, 3) := by decide +kernel
theorem dX8_init_4 : decode cX8_init 4 = .ok (.aload_n 0, 1) := by decide +kernel
theorem dX8_init_5 : decode cX8_init 5 = .ok (.iconst 0, 1) := by decide +kernel
theorem dX8_init_6 : decode cX8_init 6 = .ok (.putfield 9, 3) := by decide +kernel
theorem dX8_init_9 : decode cX8_init 9 = .ok (.aload_n 0, 1) := by decide +kernel
theorem dX8_init_10 : decode cX8_init 10 = .ok (.iconst 0, 1) := by decide +kernel
theorem dX8_init_11 : decode cX8_init 11 = .ok (.putfield 15, 3) := by decide +kernel
theorem dX8_init_14 : decode cX8_init 14 = .ok (.aload_n 0, 1) := by decide +kernel
theorem dX8_init_15 : decode cX8_init 15 = .ok (.iconst 0, 1) := by decide +kernel
theorem dX8_init_16 : decode cX8_init 16 = .ok (.putfield 18, 3) := by decide +kernel
theorem dX8_init_19 : decode cX8_init 19 = .ok (.aload_n 0, 1) := by decide +kernel
theorem dX8_init_20 : decode cX8_init 20 = .ok (.bipush 20, 2) := by decide +kernel
theorem dX8_init_22 : decode cX8_init 22 = .ok (.newarray .int, 2) := by decide +kernel
theorem dX8_init_24 : decode cX8_init 24 = .ok (.putfield 21, 3) := by decide +kernel
theorem dX8_init_27 : decode cX8_init 27 = .ok (.aload_n 0, 1) := by decide +kernel
theorem dX8_init_28 : decode cX8_init 28 = .ok (.bipush 20, 2) := by decide +kernel
theorem dX8_init_30 : decode cX8_init 30 = .ok (.newarray .int, 2) := by decide +kernel
theorem dX8_init_32 : decode cX8_init 32 = .ok (.putfield 25, 3) := by decide +kernel
theorem dX8_init_35 : decode cX8_init 35 = .ok (.aload_n 0, 1) := by decide +kernel
theorem dX8_init_36 : decode cX8_init 36 = .ok (.bipush 100, 2) := by decide +kernel
theorem dX8_init_38 : decode cX8_init 38 = .ok (.newarray .int, 2) := by decide +kernel
theorem dX8_init_40 : decode cX8_init 40 = .ok (.putfield 28, 3) := by decide +kernel
theorem dX8_init_43 : decode cX8_init 43 = .ok (.aload_n 0, 1) := by decide +kernel
theorem dX8_init_44 : decode cX8_init 44 = .ok (.bipush 100, 2) := by decide +kernel
theorem dX8_init_46 : decode cX8_init 46 = .ok (.newarray .int, 2) := by decide +kernel
theorem dX8_init_48 : decode cX8_init 48 = .ok (.putfield 31, 3) := by decide +kernel
theorem dX8_init_51 : decode cX8_init 51 = .ok (.aload_n 0, 1) := by decide +kernel
theorem dX8_init_52 : decode cX8_init 52 = .ok (.bipush 100, 2) := by decide +kernel
theorem dX8_init_54 : decode cX8_init 54 = .ok (.newarray .int, 2) := by decide +kernel
theorem dX8_init_56 : decode cX8_init 56 = .ok (.putfield 34, 3) := by decide +kernel
theorem dX8_init_59 : decode cX8_init 59 = .ok (.aload_n 0, 1) := by decide +kernel
theorem dX8_init_60 : decode cX8_init 60 = .ok (.bipush 100, 2) := by decide +kernel
theorem dX8_init_62 : decode cX8_init 62 = .ok (.newarray .int, 2) := by decide +kernel
theorem dX8_init_64 : decode cX8_init 64 = .ok (.putfield 37, 3) := by decide +kernel
theorem dX8_init_67 : decode cX8_init 67 = .ok (.aload_n 0, 1) := by decide +kernel
theorem dX8_init_68 : decode cX8_init 68 = .ok (.iconst 0, 1) := by decide +kernel
theorem dX8_init_69 : decode cX8_init 69 = .ok (.putfield 40, 3) := by decide +kernel
theorem dX8_init_72 : decode cX8_init 72 = .ok (.aload_n 0, 1) := by decide +kernel
theorem dX8_init_73 : decode cX8_init 73 = .ok (.sipush 200, 3) := by decide +kernel
theorem dX8_init_76 : decode cX8_init 76 = .ok (.newarray .int, 2) := by decide +kernel
theorem dX8_init_78 : decode cX8_init 78 = .ok (.putfield 43, 3) := by decide +kernel
theorem dX8_init_81 : decode cX8_init 81 = .ok (.aload_n 0, 1) := by decide +kernel
theorem dX8_init_82 : decode cX8_init 82 = .ok (.sipush 200, 3) := by decide +kernel
theorem dX8_init_85 : decode cX8_init 85 = .ok (.newarray .int, 2) := by decide +kernel
theorem dX8_init_87 : decode cX8_init 87 = .ok (.putfield 46, 3) := by decide +kernel
theorem dX8_init_90 : decode cX8_init 90 = .ok (.aload_n 0, 1) := by decide +kernel
theorem dX8_init_91 : decode cX8_init 91 = .ok (.sipush 201, 3) := by decide +kernel
theorem dX8_init_94 : decode cX8_init 94 = .ok (.newarray .int, 2) := by decide +kernel
theorem dX8_init_96 : decode cX8_init 96 = .ok (.putfield 49, 3) := by decide +kernel
theorem dX8_init_99 : decode cX8_init 99 = .ok (.aload_n 0, 1) := by decide +kernel
theorem dX8_init_100 : decode cX8_init 100 = .ok (.sipush 201, 3) := by decide +kernel
theorem dX8_init_103 : decode cX8_init 103 = .ok (.newarray .int, 2) := by decide +kernel
theorem dX8_init_105 : decode cX8_init 105 = .ok (.putfield 52, 3) := by decide +kernel
theorem dX8_init_108 : decode cX8_init 108 = .ok (.aload_n 0, 1) := by decide +kernel
theorem dX8_init_109 : decode cX8_init 109 = .ok (.bipush 100, 2) := by decide +kernel
theorem dX8_init_111 : decode cX8_init 111 = .ok (.newarray .int, 2) := by decide +kernel
theorem dX8_init_113 : decode cX8_init 113 = .ok (.putfield 55, 3) := by decide +kernel
theorem dX8_init_116 : decode cX8_init 116 = .ok (.aload_n 0, 1) := by decide +kernel
theorem dX8_init_117 : decode cX8_init 117 = .ok (.bipush 100, 2) := by decide +kernel
theorem dX8_init_119 : decode cX8_init 119 = .ok (.newarray .int, 2) := by decide +kernel
theorem dX8_init_121 : decode cX8_init 121 = .ok (.putfield 58, 3) := by decide +kernel
theorem dX8_init_124 : decode cX8_init 124 = .ok (.aload_n 0, 1) := by decide +kernel
theorem dX8_init_125 : decode cX8_init 125 = .ok (.aload_n 1, 1) := by decide +kernel
theorem dX8_init_126 : decode cX8_init 126 = .ok (.putfield 61, 3) := by decide +kernel
theorem dX8_init_129 : decode cX8_init 129 = .ok (.return_, 1) := by decide +kernel
theorem dX8_perform_0 : decode cX8_perform 0 = .ok (.aload_n 0, 1) := by decide +kernel
theorem dX8_perform_1 : decode cX8_perform 1 = .ok (.getfield 61, 3) := by decide +kernel
theorem dX8_perform_4 : decode cX8_perform 4 = .ok (.getfield 65, 3) := by decide +kernel
theorem dX8_perform_7 : decode cX8_perform 7 = .ok (.aload_n 0, 1) := by decide +kernel
theorem dX8_perform_8 : decode cX8_perform 8 = .ok (.getfield 21, 3) := by decide +kernel
theorem dX8_perform_11 : decode cX8_perform 11 = .ok (.invokestatic 70, 3) := by decide +kernel
theorem dX8_perform_14 : decode cX8_perform 14 = .ok (.aload_n 0, 1) := by decide +kernel
theorem dX8_perform_15 : decode cX8_perform 15 = .ok (.getfield 61, 3) := by decide +kernel
theorem dX8_perform_18 : decode cX8_perform 18 = .ok (.getfield 74, 3) := by decide +kernel
theorem dX8_perform_21 : decode cX8_perform 21 = .ok (.aload_n 0, 1) := by decide +kernel
theorem dX8_perform_22 : decode cX8_perform 22 = .ok (.getfield 25, 3) := by decide +kernel
theorem dX8_perform_25 : decode cX8_perform 25 = .ok (.invokestatic 70, 3) := by decide +kernel
theorem dX8_perform_28 : decode cX8_perform 28 = .ok (.aload_n 0, 1) := by decide +kernel
theorem dX8_perform_29 : decode cX8_perform 29 = .ok (.iconst 0, 1) := by decide +kernel
theorem dX8_perform_30 : decode cX8_perform 30 = .ok (.putfield 18, 3) := by decide +kernel
theorem dX8_perform_33 : decode cX8_perform 33 = .ok (.aload_n 0, 1) := by decide +kernel
theorem dX8_perform_34 : decode cX8_perform 34 = .ok (.iconst 0, 1) := by decide +kernel
theorem dX8_perform_35 : decode cX8_perform 35 = .ok (.putfield 9, 3) := by decide +kernel
theorem dX8_perform_38 : decode cX8_perform 38 = .ok (.aload_n 0, 1) := by decide +kernel
theorem dX8_perform_39 : decode cX8_perform 39 = .ok (.iconst 0, 1) := by decide +kernel
theorem dX8_perform_40 : decode cX8_perform 40 = .ok (.putfield 40, 3) := by decide +kernel
theorem dX8_perform_43 : decode cX8_perform 43 = .ok (.aload_n 0, 1) := by decide +kernel
theorem dX8_perform_44 : decode cX8_perform 44 = .ok (.iconst 2, 1) := by decide +kernel
theorem dX8_perform_45 : decode cX8_perform 45 = .ok (.putfield 15, 3) := by decide +kernel
theorem dX8_perform_48 : decode cX8_perform 48 = .ok (.aload_n 0, 1) := by decide +kernel
theorem dX8_perform_49 : decode cX8_perform 49 = .ok (.getfield 61, 3) := by decide +kernel
theorem dX8_perform_52 : decode cX8_perform 52 = .ok (.getfield 77, 3) := by decide +kernel
theorem dX8_perform_55 : decode cX8_perform 55 = .ok (.istore_n 1, 1) := by decide +kernel
theorem dX8_perform_56 : decode cX8_perform 56 = .ok (.iconst 0, 1) := by decide +kernel
theorem dX8_perform_57 : decode cX8_perform 57 = .ok (.istore_n 2, 1) := by decide +kernel
theorem dX8_perform_58 : decode cX8_perform 58 = .ok (.iload_n 2, 1) := by decide +kernel
theorem dX8_perform_59 : decode cX8_perform 59 = .ok (.bipush 100, 2) := by decide +kernel
theorem dX8_perform_61 : decode cX8_perform 61 = .ok (.if_icmp .ge 27, 3) := by decide +kernel
theorem dX8_perform_64 : decode cX8_perform 64 = .ok (.aload_n 0, 1) := by decide +kernel
theorem dX8_perform_65 : decode cX8_perform 65 = .ok (.getfield 61, 3) := by decide +kernel
theorem dX8_perform_68 : decode cX8_perform 68 = .ok (.iload_n 1, 1) := by decide +kernel
theorem dX8_perform_69 : decode cX8_perform 69 = .ok (.invokevirtual 80, 3) := by decide +kernel
theorem dX8_perform_72 : decode cX8_perform 72 = .ok (.ifCond .eq 16, 3) := by decide +kernel
theorem dX8_perform_75 : decode cX8_perform 75 = .ok (.aload_n 0, 1) := by decide +kernel
theorem dX8_perform_76 : decode cX8_perform 76 = .ok (.iload_n 1, 1) := by decide +kernel
theorem dX8_perform_77 : decode cX8_perform 77 = .ok (.iload_n 2, 1) := by decide +kernel
theorem dX8_perform_78 : decode cX8_perform 78 = .ok (.invokevirtual 84, 3) := by decide +kernel
theorem dX8_perform_81 : decode cX8_perform 81 = .ok (.istore_n 1, 1) := by decide +kernel
theorem dX8_perform_82 : decode cX8_perform 82 = .ok (.iinc 2 1, 3) := by decide +kernel
theorem dX8_perform_85 : decode cX8_perform 85 = .ok (.goto (-27), 3) := by decide +kernel
theorem dX8_perform_88 : decode cX8_perform 88 = .ok (.aload_n 0, 1) := by decide +kernel
theorem dX8_perform_89 : decode cX8_perform 89 = .ok (.invokevirtual 88, 3) := by decide +kernel
theorem dX8_perform_92 : decode cX8_perform 92 = .ok (.return_, 1) := by decide +kernel
theorem dX8_doStep_0 : decode cX8_doStep 0 = .ok (.aload_n 0, 1) := by decide +kernel
theorem dX8_doStep_1 : decode cX8_doStep 1 = .ok (.getfield 61, 3) := by decide +kernel
theorem dX8_doStep_4 : decode cX8_doStep 4 = .ok (.getfield 91, 3) := by decide +kernel
theorem dX8_doStep_7 : decode cX8_doStep 7 = .ok (.iload_n 1, 1) := by decide +kernel
theorem dX8_doStep_8 : decode cX8_doStep 8 = .ok (.iaload, 1) := by decide +kernel
theorem dX8_doStep_9 : decode cX8_doStep 9 = .ok (.istore_n 3, 1) := by decide +kernel
theorem dX8_doStep_10 : decode cX8_doStep 10 = .ok (.iload_n 3, 1) := by decide +kernel
theorem dX8_doStep_11 : decode cX8_doStep 11 = .ok (.iconst 5, 1) := by decide +kernel
theorem dX8_doStep_12 : decode cX8_doStep 12 = .ok (.if_icmp .eq 9, 3) := by decide +kernel
theorem dX8_doStep_15 : decode cX8_doStep 15 = .ok (.iload_n 3, 1) := by decide +kernel
theorem dX8_doStep_16 : decode cX8_doStep 16 = .ok (.bipush 7, 2) := by decide +kernel
theorem dX8_doStep_18 : decode cX8_doStep 18 = .ok (.if_icmp .ne 7, 3) := by decide +kernel
theorem dX8_doStep_21 : decode cX8_doStep 21 = .ok (.iconst (-1), 1) := by decide +kernel
theorem dX8_doStep_22 : decode cX8_doStep 22 = .ok (.goto 9, 3) := by decide +kernel
theorem dX8_doStep_25 : decode cX8_doStep 25 = .ok (.aload_n 0, 1) := by decide +kernel
theorem dX8_doStep_26 : decode cX8_doStep 26 = .ok (.getfield 25, 3) := by decide +kernel
theorem dX8_doStep_29 : decode cX8_doStep 29 = .ok (.iload_n 1, 1) := by decide +kernel
theorem dX8_doStep_30 : decode cX8_doStep 30 = .ok (.iaload, 1) := by decide +kernel
theorem dX8_doStep_31 : decode cX8_doStep 31 = .ok (.istore 4, 2) := by decide +kernel
theorem dX8_doStep_33 : decode cX8_doStep 33 = .ok (.aload_n 0, 1) := by decide +kernel
theorem dX8_doStep_34 : decode cX8_doStep 34 = .ok (.getfield 28, 3) := by decide +kernel
theorem dX8_doStep_37 : decode cX8_doStep 37 = .ok (.iload_n 2, 1) := by decide +kernel
theorem dX8_doStep_38 : decode cX8_doStep 38 = .ok (.iload_n 1, 1) := by decide +kernel
theorem dX8_doStep_39 : decode cX8_doStep 39 = .ok (.iastore, 1) := by decide +kernel
theorem dX8_doStep_40 : decode cX8_doStep 40 = .ok (.aload_n 0, 1) := by decide +kernel
theorem dX8_doStep_41 : decode cX8_doStep 41 = .ok (.getfield 31, 3) := by decide +kernel
theorem dX8_doStep_44 : decode cX8_doStep 44 = .ok (.iload_n 2, 1) := by decide +kernel
theorem dX8_doStep_45 : decode cX8_doStep 45 = .ok (.iload 4, 2) := by decide +kernel
theorem dX8_doStep_47 : decode cX8_doStep 47 = .ok (.iastore, 1) := by decide +kernel
theorem dX8_doStep_48 : decode cX8_doStep 48 = .ok (.aload_n 0, 1) := by decide +kernel
theorem dX8_doStep_49 : decode cX8_doStep 49 = .ok (.getfield 37, 3) := by decide +kernel
theorem dX8_doStep_52 : decode cX8_doStep 52 = .ok (.iload_n 2, 1) := by decide +kernel
theorem dX8_doStep_53 : decode cX8_doStep 53 = .ok (.aload_n 0, 1) := by decide +kernel
theorem dX8_doStep_54 : decode cX8_doStep 54 = .ok (.getfield 40, 3) := by decide +kernel
theorem dX8_doStep_57 : decode cX8_doStep 57 = .ok (.iastore, 1) := by decide +kernel
theorem dX8_doStep_58 : decode cX8_doStep 58 = .ok (.aload_n 0, 1) := by decide +kernel
theorem dX8_doStep_59 : decode cX8_doStep 59 = .ok (.iload_n 1, 1) := by decide +kernel
theorem dX8_doStep_60 : decode cX8_doStep 60 = .ok (.iconst 0, 1) := by decide +kernel
theorem dX8_doStep_61 : decode cX8_doStep 61 = .ok (.invokevirtual 94, 3) := by decide +kernel
theorem dX8_doStep_64 : decode cX8_doStep 64 = .ok (.aload_n 0, 1) := by decide +kernel
theorem dX8_doStep_65 : decode cX8_doStep 65 = .ok (.getfield 61, 3) := by decide +kernel
theorem dX8_doStep_68 : decode cX8_doStep 68 = .ok (.iload 4, 2) := by decide +kernel
theorem dX8_doStep_70 : decode cX8_doStep 70 = .ok (.invokevirtual 98, 3) := by decide +kernel
theorem dX8_doStep_73 : decode cX8_doStep 73 = .ok (.ifCond .eq 27, 3) := by decide +kernel
theorem dX8_doStep_76 : decode cX8_doStep 76 = .ok (.aload_n 0, 1) := by decide +kernel
theorem dX8_doStep_77 : decode cX8_doStep 77 = .ok (.iload 4, 2) := by decide +kernel
theorem dX8_doStep_79 : decode cX8_doStep 79 = .ok (.iload_n 3, 1) := by decide +kernel
theorem dX8_doStep_80 : decode cX8_doStep 80 = .ok (.iconst 3, 1) := by decide +kernel
theorem dX8_doStep_81 : decode cX8_doStep 81 = .ok (.if_icmp .ne 7, 3) := by decide +kernel
theorem dX8_doStep_84 : decode cX8_doStep 84 = .ok (.iconst 2, 1) := by decide +kernel
theorem dX8_doStep_85 : decode cX8_doStep 85 = .ok (.goto 4, 3) := by decide +kernel
theorem dX8_doStep_88 : decode cX8_doStep 88 = .ok (.iconst 1, 1) := by decide +kernel
theorem dX8_doStep_89 : decode cX8_doStep 89 = .ok (.invokevirtual 94, 3) := by decide +kernel
theorem dX8_doStep_92 : decode cX8_doStep 92 = .ok (.aload_n 0, 1) := by decide +kernel
theorem dX8_doStep_93 : decode cX8_doStep 93 = .ok (.iload_n 1, 1) := by decide +kernel
theorem dX8_doStep_94 : decode cX8_doStep 94 = .ok (.iload_n 3, 1) := by decide +kernel
theorem dX8_doStep_95 : decode cX8_doStep 95 = .ok (.iload 4, 2) := by decide +kernel
theorem dX8_doStep_97 : decode cX8_doStep 97 = .ok (.invokevirtual 101, 3) := by decide +kernel
theorem dX8_doStep_100 : decode cX8_doStep 100 = .ok (.aload_n 0, 1) := by decide +kernel
theorem dX8_doStep_101 : decode cX8_doStep 101 = .ok (.getfield 34, 3) := by decide +kernel
theorem dX8_doStep_104 : decode cX8_doStep 104 = .ok (.iload_n 2, 1) := by decide +kernel
theorem dX8_doStep_105 : decode cX8_doStep 105 = .ok (.aload_n 0, 1) := by decide +kernel
theorem dX8_doStep_106 : decode cX8_doStep 106 = .ok (.getfield 18, 3) := by decide +kernel
theorem dX8_doStep_109 : decode cX8_doStep 109 = .ok (.iastore, 1) := by decide +kernel
theorem dX8_doStep_110 : decode cX8_doStep 110 = .ok (.aload_n 0, 1) := by decide +kernel
theorem dX8_doStep_111 : decode cX8_doStep 111 = .ok (.iload_n 2, 1) := by decide +kernel
theorem dX8_doStep_112 : decode cX8_doStep 112 = .ok (.iconst 1, 1) := by decide +kernel
theorem dX8_doStep_113 : decode cX8_doStep 113 = .ok (.iadd, 1) := by decide +kernel
theorem dX8_doStep_114 : decode cX8_doStep 114 = .ok (.putfield 9, 3) := by decide +kernel
theorem dX8_doStep_117 : decode cX8_doStep 117 = .ok (.iload_n 3, 1) := by decide +kernel
theorem dX8_doStep_118 : decode cX8_doStep 118 = .ok (.bipush 7, 2) := by decide +kernel
theorem dX8_doStep_120 : decode cX8_doStep 120 = .ok (.if_icmp .ne 10, 3) := by decide +kernel
theorem dX8_doStep_123 : decode cX8_doStep 123 = .ok (.aload_n 0, 1) := by decide +kernel
theorem dX8_doStep_124 : decode cX8_doStep 124 = .ok (.iconst 1, 1) := by decide +kernel
theorem dX8_doStep_125 : decode cX8_doStep 125 = .ok (.putfield 15, 3) := by decide +kernel
theorem dX8_doStep_128 : decode cX8_doStep 128 = .ok (.iconst (-1), 1) := by decide +kernel
theorem dX8_doStep_129 : decode cX8_doStep 129 = .ok (.ireturn, 1) := by decide +kernel
theorem dX8_doStep_130 : decode cX8_doStep 130 = .ok (.iload_n 3, 1) := by decide +kernel
theorem dX8_doStep_131 : decode cX8_doStep 131 = .ok (.iconst 5, 1) := by decide +kernel
theorem dX8_doStep_132 : decode cX8_doStep 132 = .ok (.if_icmp .ne 22, 3) := by decide +kernel
theorem dX8_doStep_135 : decode cX8_doStep 135 = .ok (.aload_n 0, 1) := by decide +kernel
theorem dX8_doStep_136 : decode cX8_doStep 136 = .ok (.getfield 18, 3) := by decide +kernel
theorem dX8_doStep_139 : decode cX8_doStep 139 = .ok (.ifCond .ge 15, 3) := by decide +kernel
theorem dX8_doStep_142 : decode cX8_doStep 142 = .ok (.aload_n 0, 1) := by decide +kernel
theorem dX8_doStep_143 : decode cX8_doStep 143 = .ok (.getfield 61, 3) := by decide +kernel
theorem dX8_doStep_146 : decode cX8_doStep 146 = .ok (.getfield 74, 3) := by decide +kernel
theorem dX8_doStep_149 : decode cX8_doStep 149 = .ok (.iload_n 1, 1) := by decide +kernel
theorem dX8_doStep_150 : decode cX8_doStep 150 = .ok (.iaload, 1) := by decide +kernel
theorem dX8_doStep_151 : decode cX8_doStep 151 = .ok (.goto 12, 3) := by decide +kernel
theorem dX8_doStep_154 : decode cX8_doStep 154 = .ok (.aload_n 0, 1) := by decide +kernel
theorem dX8_doStep_155 : decode cX8_doStep 155 = .ok (.getfield 61, 3) := by decide +kernel
theorem dX8_doStep_158 : decode cX8_doStep 158 = .ok (.getfield 105, 3) := by decide +kernel
theorem dX8_doStep_161 : decode cX8_doStep 161 = .ok (.iload_n 1, 1) := by decide +kernel
theorem dX8_doStep_162 : decode cX8_doStep 162 = .ok (.iaload, 1) := by decide +kernel
theorem dX8_doStep_163 : decode cX8_doStep 163 = .ok (.ireturn, 1) := by decide +kernel
theorem dX8_addReading_0 : decode cX8_addReading 0 = .ok (.aload_n 0, 1) := by decide +kernel
theorem dX8_addReading_1 : decode cX8_addReading 1 = .ok (.getfield 40, 3) := by decide +kernel
theorem dX8_addReading_4 : decode cX8_addReading 4 = .ok (.sipush 200, 3) := by decide +kernel
theorem dX8_addReading_7 : decode cX8_addReading 7 = .ok (.if_icmp .ge 33, 3) := by decide +kernel
theorem dX8_addReading_10 : decode cX8_addReading 10 = .ok (.aload_n 0, 1) := by decide +kernel
theorem dX8_addReading_11 : decode cX8_addReading 11 = .ok (.getfield 43, 3) := by decide +kernel
theorem dX8_addReading_14 : decode cX8_addReading 14 = .ok (.aload_n 0, 1) := by decide +kernel
theorem dX8_addReading_15 : decode cX8_addReading 15 = .ok (.getfield 40, 3) := by decide +kernel
theorem dX8_addReading_18 : decode cX8_addReading 18 = .ok (.iload_n 1, 1) := by decide +kernel
theorem dX8_addReading_19 : decode cX8_addReading 19 = .ok (.iastore, 1) := by decide +kernel
theorem dX8_addReading_20 : decode cX8_addReading 20 = .ok (.aload_n 0, 1) := by decide +kernel
theorem dX8_addReading_21 : decode cX8_addReading 21 = .ok (.getfield 46, 3) := by decide +kernel
theorem dX8_addReading_24 : decode cX8_addReading 24 = .ok (.aload_n 0, 1) := by decide +kernel
theorem dX8_addReading_25 : decode cX8_addReading 25 = .ok (.getfield 40, 3) := by decide +kernel
theorem dX8_addReading_28 : decode cX8_addReading 28 = .ok (.iload_n 2, 1) := by decide +kernel
theorem dX8_addReading_29 : decode cX8_addReading 29 = .ok (.iastore, 1) := by decide +kernel
theorem dX8_addReading_30 : decode cX8_addReading 30 = .ok (.aload_n 0, 1) := by decide +kernel
theorem dX8_addReading_31 : decode cX8_addReading 31 = .ok (.dup, 1) := by decide +kernel
theorem dX8_addReading_32 : decode cX8_addReading 32 = .ok (.getfield 40, 3) := by decide +kernel
theorem dX8_addReading_35 : decode cX8_addReading 35 = .ok (.iconst 1, 1) := by decide +kernel
theorem dX8_addReading_36 : decode cX8_addReading 36 = .ok (.iadd, 1) := by decide +kernel
theorem dX8_addReading_37 : decode cX8_addReading 37 = .ok (.putfield 40, 3) := by decide +kernel
theorem dX8_addReading_40 : decode cX8_addReading 40 = .ok (.return_, 1) := by decide +kernel
theorem dX8_carryOut_0 : decode cX8_carryOut 0 = .ok (.iload_n 2, 1) := by decide +kernel
theorem dX8_carryOut_1 : decode cX8_carryOut 1 = .ok (.tableswitch 149 0 6 #[43, 56, 77, 98, 119, 149, 132], 43) := by decide +kernel
theorem dX8_carryOut_44 : decode cX8_carryOut 44 = .ok (.aload_n 0, 1) := by decide +kernel
theorem dX8_carryOut_45 : decode cX8_carryOut 45 = .ok (.aload_n 0, 1) := by decide +kernel
theorem dX8_carryOut_46 : decode cX8_carryOut 46 = .ok (.getfield 21, 3) := by decide +kernel
theorem dX8_carryOut_49 : decode cX8_carryOut 49 = .ok (.iload_n 3, 1) := by decide +kernel
theorem dX8_carryOut_50 : decode cX8_carryOut 50 = .ok (.iaload, 1) := by decide +kernel
theorem dX8_carryOut_51 : decode cX8_carryOut 51 = .ok (.putfield 18, 3) := by decide +kernel
theorem dX8_carryOut_54 : decode cX8_carryOut 54 = .ok (.goto 96, 3) := by decide +kernel
theorem dX8_carryOut_57 : decode cX8_carryOut 57 = .ok (.aload_n 0, 1) := by decide +kernel
theorem dX8_carryOut_58 : decode cX8_carryOut 58 = .ok (.aload_n 0, 1) := by decide +kernel
theorem dX8_carryOut_59 : decode cX8_carryOut 59 = .ok (.getfield 18, 3) := by decide +kernel
theorem dX8_carryOut_62 : decode cX8_carryOut 62 = .ok (.aload_n 0, 1) := by decide +kernel
theorem dX8_carryOut_63 : decode cX8_carryOut 63 = .ok (.getfield 21, 3) := by decide +kernel
theorem dX8_carryOut_66 : decode cX8_carryOut 66 = .ok (.iload_n 3, 1) := by decide +kernel
theorem dX8_carryOut_67 : decode cX8_carryOut 67 = .ok (.iaload, 1) := by decide +kernel
theorem dX8_carryOut_68 : decode cX8_carryOut 68 = .ok (.iadd, 1) := by decide +kernel
theorem dX8_carryOut_69 : decode cX8_carryOut 69 = .ok (.invokestatic 108, 3) := by decide +kernel
theorem dX8_carryOut_72 : decode cX8_carryOut 72 = .ok (.putfield 18, 3) := by decide +kernel
theorem dX8_carryOut_75 : decode cX8_carryOut 75 = .ok (.goto 75, 3) := by decide +kernel
theorem dX8_carryOut_78 : decode cX8_carryOut 78 = .ok (.aload_n 0, 1) := by decide +kernel
theorem dX8_carryOut_79 : decode cX8_carryOut 79 = .ok (.aload_n 0, 1) := by decide +kernel
theorem dX8_carryOut_80 : decode cX8_carryOut 80 = .ok (.getfield 18, 3) := by decide +kernel
theorem dX8_carryOut_83 : decode cX8_carryOut 83 = .ok (.aload_n 0, 1) := by decide +kernel
theorem dX8_carryOut_84 : decode cX8_carryOut 84 = .ok (.getfield 21, 3) := by decide +kernel
theorem dX8_carryOut_87 : decode cX8_carryOut 87 = .ok (.iload_n 3, 1) := by decide +kernel
theorem dX8_carryOut_88 : decode cX8_carryOut 88 = .ok (.iaload, 1) := by decide +kernel
theorem dX8_carryOut_89 : decode cX8_carryOut 89 = .ok (.isub, 1) := by decide +kernel
theorem dX8_carryOut_90 : decode cX8_carryOut 90 = .ok (.invokestatic 108, 3) := by decide +kernel
theorem dX8_carryOut_93 : decode cX8_carryOut 93 = .ok (.putfield 18, 3) := by decide +kernel
theorem dX8_carryOut_96 : decode cX8_carryOut 96 = .ok (.goto 54, 3) := by decide +kernel
theorem dX8_carryOut_99 : decode cX8_carryOut 99 = .ok (.aload_n 0, 1) := by decide +kernel
theorem dX8_carryOut_100 : decode cX8_carryOut 100 = .ok (.aload_n 0, 1) := by decide +kernel
theorem dX8_carryOut_101 : decode cX8_carryOut 101 = .ok (.getfield 18, 3) := by decide +kernel
theorem dX8_carryOut_104 : decode cX8_carryOut 104 = .ok (.aload_n 0, 1) := by decide +kernel
theorem dX8_carryOut_105 : decode cX8_carryOut 105 = .ok (.getfield 21, 3) := by decide +kernel
theorem dX8_carryOut_108 : decode cX8_carryOut 108 = .ok (.iload_n 3, 1) := by decide +kernel
theorem dX8_carryOut_109 : decode cX8_carryOut 109 = .ok (.iaload, 1) := by decide +kernel
theorem dX8_carryOut_110 : decode cX8_carryOut 110 = .ok (.imul, 1) := by decide +kernel
theorem dX8_carryOut_111 : decode cX8_carryOut 111 = .ok (.invokestatic 108, 3) := by decide +kernel
theorem dX8_carryOut_114 : decode cX8_carryOut 114 = .ok (.putfield 18, 3) := by decide +kernel
theorem dX8_carryOut_117 : decode cX8_carryOut 117 = .ok (.goto 33, 3) := by decide +kernel
theorem dX8_carryOut_120 : decode cX8_carryOut 120 = .ok (.aload_n 0, 1) := by decide +kernel
theorem dX8_carryOut_121 : decode cX8_carryOut 121 = .ok (.getfield 21, 3) := by decide +kernel
theorem dX8_carryOut_124 : decode cX8_carryOut 124 = .ok (.iload_n 3, 1) := by decide +kernel
theorem dX8_carryOut_125 : decode cX8_carryOut 125 = .ok (.aload_n 0, 1) := by decide +kernel
theorem dX8_carryOut_126 : decode cX8_carryOut 126 = .ok (.getfield 18, 3) := by decide +kernel
theorem dX8_carryOut_129 : decode cX8_carryOut 129 = .ok (.iastore, 1) := by decide +kernel
theorem dX8_carryOut_130 : decode cX8_carryOut 130 = .ok (.goto 20, 3) := by decide +kernel
theorem dX8_carryOut_133 : decode cX8_carryOut 133 = .ok (.aload_n 0, 1) := by decide +kernel
theorem dX8_carryOut_134 : decode cX8_carryOut 134 = .ok (.iload_n 3, 1) := by decide +kernel
theorem dX8_carryOut_135 : decode cX8_carryOut 135 = .ok (.aload_n 0, 1) := by decide +kernel
theorem dX8_carryOut_136 : decode cX8_carryOut 136 = .ok (.getfield 61, 3) := by decide +kernel
theorem dX8_carryOut_139 : decode cX8_carryOut 139 = .ok (.getfield 112, 3) := by decide +kernel
theorem dX8_carryOut_142 : decode cX8_carryOut 142 = .ok (.iload_n 1, 1) := by decide +kernel
theorem dX8_carryOut_143 : decode cX8_carryOut 143 = .ok (.iaload, 1) := by decide +kernel
theorem dX8_carryOut_144 : decode cX8_carryOut 144 = .ok (.invokevirtual 115, 3) := by decide +kernel
theorem dX8_carryOut_147 : decode cX8_carryOut 147 = .ok (.goto 3, 3) := by decide +kernel
theorem dX8_carryOut_150 : decode cX8_carryOut 150 = .ok (.return_, 1) := by decide +kernel
theorem dX8_moveOperand_0 : decode cX8_moveOperand 0 = .ok (.aload_n 0, 1) := by decide +kernel
theorem dX8_moveOperand_1 : decode cX8_moveOperand 1 = .ok (.getfield 25, 3) := by decide +kernel
theorem dX8_moveOperand_4 : decode cX8_moveOperand 4 = .ok (.iload_n 1, 1) := by decide +kernel
theorem dX8_moveOperand_5 : decode cX8_moveOperand 5 = .ok (.aload_n 0, 1) := by decide +kernel
theorem dX8_moveOperand_6 : decode cX8_moveOperand 6 = .ok (.getfield 61, 3) := by decide +kernel
theorem dX8_moveOperand_9 : decode cX8_moveOperand 9 = .ok (.aload_n 0, 1) := by decide +kernel
theorem dX8_moveOperand_10 : decode cX8_moveOperand 10 = .ok (.getfield 25, 3) := by decide +kernel
theorem dX8_moveOperand_13 : decode cX8_moveOperand 13 = .ok (.iload_n 1, 1) := by decide +kernel
theorem dX8_moveOperand_14 : decode cX8_moveOperand 14 = .ok (.iaload, 1) := by decide +kernel
theorem dX8_moveOperand_15 : decode cX8_moveOperand 15 = .ok (.iload_n 2, 1) := by decide +kernel
theorem dX8_moveOperand_16 : decode cX8_moveOperand 16 = .ok (.invokevirtual 118, 3) := by decide +kernel
theorem dX8_moveOperand_19 : decode cX8_moveOperand 19 = .ok (.iastore, 1) := by decide +kernel
theorem dX8_moveOperand_20 : decode cX8_moveOperand 20 = .ok (.return_, 1) := by decide +kernel
theorem dX8_within_0 : decode cX8_within 0 = .ok (.iload_n 0, 1) := by decide +kernel
theorem dX8_within_1 : decode cX8_within 1 = .ok (.sipush (-10000), 3) := by decide +kernel
theorem dX8_within_4 : decode cX8_within 4 = .ok (.isub, 1) := by decide +kernel
theorem dX8_within_5 : decode cX8_within 5 = .ok (.sipush 20000, 3) := by decide +kernel
theorem dX8_within_8 : decode cX8_within 8 = .ok (.invokestatic 121, 3) := by decide +kernel
theorem dX8_within_11 : decode cX8_within 11 = .ok (.sipush (-10000), 3) := by decide +kernel
theorem dX8_within_14 : decode cX8_within 14 = .ok (.iadd, 1) := by decide +kernel
theorem dX8_within_15 : decode cX8_within 15 = .ok (.ireturn, 1) := by decide +kernel
theorem dX8_markPasses_0 : decode cX8_markPasses 0 = .ok (.iconst 0, 1) := by decide +kernel
theorem dX8_markPasses_1 : decode cX8_markPasses 1 = .ok (.istore_n 1, 1) := by decide +kernel
theorem dX8_markPasses_2 : decode cX8_markPasses 2 = .ok (.iload_n 1, 1) := by decide +kernel
theorem dX8_markPasses_3 : decode cX8_markPasses 3 = .ok (.sipush 200, 3) := by decide +kernel
theorem dX8_markPasses_6 : decode cX8_markPasses 6 = .ok (.if_icmp .gt 23, 3) := by decide +kernel
theorem dX8_markPasses_9 : decode cX8_markPasses 9 = .ok (.aload_n 0, 1) := by decide +kernel
theorem dX8_markPasses_10 : decode cX8_markPasses 10 = .ok (.getfield 49, 3) := by decide +kernel
theorem dX8_markPasses_13 : decode cX8_markPasses 13 = .ok (.iload_n 1, 1) := by decide +kernel
theorem dX8_markPasses_14 : decode cX8_markPasses 14 = .ok (.iconst 0, 1) := by decide +kernel
theorem dX8_markPasses_15 : decode cX8_markPasses 15 = .ok (.iastore, 1) := by decide +kernel
theorem dX8_markPasses_16 : decode cX8_markPasses 16 = .ok (.aload_n 0, 1) := by decide +kernel
theorem dX8_markPasses_17 : decode cX8_markPasses 17 = .ok (.getfield 52, 3) := by decide +kernel
theorem dX8_markPasses_20 : decode cX8_markPasses 20 = .ok (.iload_n 1, 1) := by decide +kernel
theorem dX8_markPasses_21 : decode cX8_markPasses 21 = .ok (.iconst 0, 1) := by decide +kernel
theorem dX8_markPasses_22 : decode cX8_markPasses 22 = .ok (.iastore, 1) := by decide +kernel
theorem dX8_markPasses_23 : decode cX8_markPasses 23 = .ok (.iinc 1 1, 3) := by decide +kernel
theorem dX8_markPasses_26 : decode cX8_markPasses 26 = .ok (.goto (-24), 3) := by decide +kernel
theorem dX8_markPasses_29 : decode cX8_markPasses 29 = .ok (.iconst 0, 1) := by decide +kernel
theorem dX8_markPasses_30 : decode cX8_markPasses 30 = .ok (.istore_n 1, 1) := by decide +kernel
theorem dX8_markPasses_31 : decode cX8_markPasses 31 = .ok (.iload_n 1, 1) := by decide +kernel
theorem dX8_markPasses_32 : decode cX8_markPasses 32 = .ok (.bipush 100, 2) := by decide +kernel
theorem dX8_markPasses_34 : decode cX8_markPasses 34 = .ok (.if_icmp .ge 16, 3) := by decide +kernel
theorem dX8_markPasses_37 : decode cX8_markPasses 37 = .ok (.aload_n 0, 1) := by decide +kernel
theorem dX8_markPasses_38 : decode cX8_markPasses 38 = .ok (.getfield 55, 3) := by decide +kernel
theorem dX8_markPasses_41 : decode cX8_markPasses 41 = .ok (.iload_n 1, 1) := by decide +kernel
theorem dX8_markPasses_42 : decode cX8_markPasses 42 = .ok (.iconst 0, 1) := by decide +kernel
theorem dX8_markPasses_43 : decode cX8_markPasses 43 = .ok (.iastore, 1) := by decide +kernel
theorem dX8_markPasses_44 : decode cX8_markPasses 44 = .ok (.iinc 1 1, 3) := by decide +kernel
theorem dX8_markPasses_47 : decode cX8_markPasses 47 = .ok (.goto (-16), 3) := by decide +kernel
theorem dX8_markPasses_50 : decode cX8_markPasses 50 = .ok (.iconst 1, 1) := by decide +kernel
theorem dX8_markPasses_51 : decode cX8_markPasses 51 = .ok (.istore_n 1, 1) := by decide +kernel
theorem dX8_markPasses_52 : decode cX8_markPasses 52 = .ok (.iconst 3, 1) := by decide +kernel
theorem dX8_markPasses_53 : decode cX8_markPasses 53 = .ok (.iload_n 1, 1) := by decide +kernel
theorem dX8_markPasses_54 : decode cX8_markPasses 54 = .ok (.imul, 1) := by decide +kernel
theorem dX8_markPasses_55 : decode cX8_markPasses 55 = .ok (.aload_n 0, 1) := by decide +kernel
theorem dX8_markPasses_56 : decode cX8_markPasses 56 = .ok (.getfield 9, 3) := by decide +kernel
theorem dX8_markPasses_59 : decode cX8_markPasses 59 = .ok (.if_icmp .gt 14, 3) := by decide +kernel
theorem dX8_markPasses_62 : decode cX8_markPasses 62 = .ok (.aload_n 0, 1) := by decide +kernel
theorem dX8_markPasses_63 : decode cX8_markPasses 63 = .ok (.iload_n 1, 1) := by decide +kernel
theorem dX8_markPasses_64 : decode cX8_markPasses 64 = .ok (.invokevirtual 126, 3) := by decide +kernel
theorem dX8_markPasses_67 : decode cX8_markPasses 67 = .ok (.iinc 1 1, 3) := by decide +kernel
theorem dX8_markPasses_70 : decode cX8_markPasses 70 = .ok (.goto (-18), 3) := by decide +kernel
theorem dX8_markPasses_73 : decode cX8_markPasses 73 = .ok (.iconst 0, 1) := by decide +kernel
theorem dX8_markPasses_74 : decode cX8_markPasses 74 = .ok (.istore_n 1, 1) := by decide +kernel
theorem dX8_markPasses_75 : decode cX8_markPasses 75 = .ok (.iload_n 1, 1) := by decide +kernel
theorem dX8_markPasses_76 : decode cX8_markPasses 76 = .ok (.aload_n 0, 1) := by decide +kernel
theorem dX8_markPasses_77 : decode cX8_markPasses 77 = .ok (.getfield 9, 3) := by decide +kernel
theorem dX8_markPasses_80 : decode cX8_markPasses 80 = .ok (.if_icmp .ge 34, 3) := by decide +kernel
theorem dX8_markPasses_83 : decode cX8_markPasses 83 = .ok (.aload_n 0, 1) := by decide +kernel
theorem dX8_markPasses_84 : decode cX8_markPasses 84 = .ok (.getfield 55, 3) := by decide +kernel
theorem dX8_markPasses_87 : decode cX8_markPasses 87 = .ok (.iload_n 1, 1) := by decide +kernel
theorem dX8_markPasses_88 : decode cX8_markPasses 88 = .ok (.iaload, 1) := by decide +kernel
theorem dX8_markPasses_89 : decode cX8_markPasses 89 = .ok (.ifCond .le 19, 3) := by decide +kernel
theorem dX8_markPasses_92 : decode cX8_markPasses 92 = .ok (.iload_n 1, 1) := by decide +kernel
theorem dX8_markPasses_93 : decode cX8_markPasses 93 = .ok (.aload_n 0, 1) := by decide +kernel
theorem dX8_markPasses_94 : decode cX8_markPasses 94 = .ok (.iload_n 1, 1) := by decide +kernel
theorem dX8_markPasses_95 : decode cX8_markPasses 95 = .ok (.aload_n 0, 1) := by decide +kernel
theorem dX8_markPasses_96 : decode cX8_markPasses 96 = .ok (.getfield 58, 3) := by decide +kernel
theorem dX8_markPasses_99 : decode cX8_markPasses 99 = .ok (.iload_n 1, 1) := by decide +kernel
theorem dX8_markPasses_100 : decode cX8_markPasses 100 = .ok (.iaload, 1) := by decide +kernel
theorem dX8_markPasses_101 : decode cX8_markPasses 101 = .ok (.invokevirtual 130, 3) := by decide +kernel
theorem dX8_markPasses_104 : decode cX8_markPasses 104 = .ok (.iconst 1, 1) := by decide +kernel
theorem dX8_markPasses_105 : decode cX8_markPasses 105 = .ok (.isub, 1) := by decide +kernel
theorem dX8_markPasses_106 : decode cX8_markPasses 106 = .ok (.iadd, 1) := by decide +kernel
theorem dX8_markPasses_107 : decode cX8_markPasses 107 = .ok (.istore_n 1, 1) := by decide +kernel
theorem dX8_markPasses_108 : decode cX8_markPasses 108 = .ok (.iinc 1 1, 3) := by decide +kernel
theorem dX8_markPasses_111 : decode cX8_markPasses 111 = .ok (.goto (-36), 3) := by decide +kernel
theorem dX8_markPasses_114 : decode cX8_markPasses 114 = .ok (.return_, 1) := by decide +kernel
theorem dX8_weighPasses_0 : decode cX8_weighPasses 0 = .ok (.iconst 0, 1) := by decide +kernel
theorem dX8_weighPasses_1 : decode cX8_weighPasses 1 = .ok (.istore_n 2, 1) := by decide +kernel
theorem dX8_weighPasses_2 : decode cX8_weighPasses 2 = .ok (.aload_n 0, 1) := by decide +kernel
theorem dX8_weighPasses_3 : decode cX8_weighPasses 3 = .ok (.getfield 9, 3) := by decide +kernel
theorem dX8_weighPasses_6 : decode cX8_weighPasses 6 = .ok (.iload_n 1, 1) := by decide +kernel
theorem dX8_weighPasses_7 : decode cX8_weighPasses 7 = .ok (.isub, 1) := by decide +kernel
theorem dX8_weighPasses_8 : decode cX8_weighPasses 8 = .ok (.iconst 1, 1) := by decide +kernel
theorem dX8_weighPasses_9 : decode cX8_weighPasses 9 = .ok (.isub, 1) := by decide +kernel
theorem dX8_weighPasses_10 : decode cX8_weighPasses 10 = .ok (.istore_n 3, 1) := by decide +kernel
theorem dX8_weighPasses_11 : decode cX8_weighPasses 11 = .ok (.iload_n 3, 1) := by decide +kernel
theorem dX8_weighPasses_12 : decode cX8_weighPasses 12 = .ok (.ifCond .lt 98, 3) := by decide +kernel
theorem dX8_weighPasses_15 : decode cX8_weighPasses 15 = .ok (.aload_n 0, 1) := by decide +kernel
theorem dX8_weighPasses_16 : decode cX8_weighPasses 16 = .ok (.getfield 28, 3) := by decide +kernel
theorem dX8_weighPasses_19 : decode cX8_weighPasses 19 = .ok (.iload_n 3, 1) := by decide +kernel
theorem dX8_weighPasses_20 : decode cX8_weighPasses 20 = .ok (.iaload, 1) := by decide +kernel
theorem dX8_weighPasses_21 : decode cX8_weighPasses 21 = .ok (.aload_n 0, 1) := by decide +kernel
theorem dX8_weighPasses_22 : decode cX8_weighPasses 22 = .ok (.getfield 28, 3) := by decide +kernel
theorem dX8_weighPasses_25 : decode cX8_weighPasses 25 = .ok (.iload_n 3, 1) := by decide +kernel
theorem dX8_weighPasses_26 : decode cX8_weighPasses 26 = .ok (.iload_n 1, 1) := by decide +kernel
theorem dX8_weighPasses_27 : decode cX8_weighPasses 27 = .ok (.iadd, 1) := by decide +kernel
theorem dX8_weighPasses_28 : decode cX8_weighPasses 28 = .ok (.iaload, 1) := by decide +kernel
theorem dX8_weighPasses_29 : decode cX8_weighPasses 29 = .ok (.if_icmp .ne 24, 3) := by decide +kernel
theorem dX8_weighPasses_32 : decode cX8_weighPasses 32 = .ok (.aload_n 0, 1) := by decide +kernel
theorem dX8_weighPasses_33 : decode cX8_weighPasses 33 = .ok (.getfield 31, 3) := by decide +kernel
theorem dX8_weighPasses_36 : decode cX8_weighPasses 36 = .ok (.iload_n 3, 1) := by decide +kernel
theorem dX8_weighPasses_37 : decode cX8_weighPasses 37 = .ok (.iaload, 1) := by decide +kernel
theorem dX8_weighPasses_38 : decode cX8_weighPasses 38 = .ok (.aload_n 0, 1) := by decide +kernel
theorem dX8_weighPasses_39 : decode cX8_weighPasses 39 = .ok (.getfield 31, 3) := by decide +kernel
theorem dX8_weighPasses_42 : decode cX8_weighPasses 42 = .ok (.iload_n 3, 1) := by decide +kernel
theorem dX8_weighPasses_43 : decode cX8_weighPasses 43 = .ok (.iload_n 1, 1) := by decide +kernel
theorem dX8_weighPasses_44 : decode cX8_weighPasses 44 = .ok (.iadd, 1) := by decide +kernel
theorem dX8_weighPasses_45 : decode cX8_weighPasses 45 = .ok (.iaload, 1) := by decide +kernel
theorem dX8_weighPasses_46 : decode cX8_weighPasses 46 = .ok (.if_icmp .ne 7, 3) := by decide +kernel
theorem dX8_weighPasses_49 : decode cX8_weighPasses 49 = .ok (.iconst 1, 1) := by decide +kernel
theorem dX8_weighPasses_50 : decode cX8_weighPasses 50 = .ok (.goto 4, 3) := by decide +kernel
theorem dX8_weighPasses_53 : decode cX8_weighPasses 53 = .ok (.iconst 0, 1) := by decide +kernel
theorem dX8_weighPasses_54 : decode cX8_weighPasses 54 = .ok (.istore 4, 2) := by decide +kernel
theorem dX8_weighPasses_56 : decode cX8_weighPasses 56 = .ok (.iload 4, 2) := by decide +kernel
theorem dX8_weighPasses_58 : decode cX8_weighPasses 58 = .ok (.ifCond .eq 9, 3) := by decide +kernel
theorem dX8_weighPasses_61 : decode cX8_weighPasses 61 = .ok (.iload_n 2, 1) := by decide +kernel
theorem dX8_weighPasses_62 : decode cX8_weighPasses 62 = .ok (.iconst 1, 1) := by decide +kernel
theorem dX8_weighPasses_63 : decode cX8_weighPasses 63 = .ok (.iadd, 1) := by decide +kernel
theorem dX8_weighPasses_64 : decode cX8_weighPasses 64 = .ok (.goto 4, 3) := by decide +kernel
theorem dX8_weighPasses_67 : decode cX8_weighPasses 67 = .ok (.iconst 0, 1) := by decide +kernel
theorem dX8_weighPasses_68 : decode cX8_weighPasses 68 = .ok (.istore_n 2, 1) := by decide +kernel
theorem dX8_weighPasses_69 : decode cX8_weighPasses 69 = .ok (.iload_n 2, 1) := by decide +kernel
theorem dX8_weighPasses_70 : decode cX8_weighPasses 70 = .ok (.iload_n 2, 1) := by decide +kernel
theorem dX8_weighPasses_71 : decode cX8_weighPasses 71 = .ok (.iload_n 1, 1) := by decide +kernel
theorem dX8_weighPasses_72 : decode cX8_weighPasses 72 = .ok (.irem, 1) := by decide +kernel
theorem dX8_weighPasses_73 : decode cX8_weighPasses 73 = .ok (.isub, 1) := by decide +kernel
theorem dX8_weighPasses_74 : decode cX8_weighPasses 74 = .ok (.iload_n 1, 1) := by decide +kernel
theorem dX8_weighPasses_75 : decode cX8_weighPasses 75 = .ok (.isub, 1) := by decide +kernel
theorem dX8_weighPasses_76 : decode cX8_weighPasses 76 = .ok (.istore 5, 2) := by decide +kernel
theorem dX8_weighPasses_78 : decode cX8_weighPasses 78 = .ok (.iload 5, 2) := by decide +kernel
theorem dX8_weighPasses_80 : decode cX8_weighPasses 80 = .ok (.aload_n 0, 1) := by decide +kernel
theorem dX8_weighPasses_81 : decode cX8_weighPasses 81 = .ok (.getfield 55, 3) := by decide +kernel
theorem dX8_weighPasses_84 : decode cX8_weighPasses 84 = .ok (.iload_n 3, 1) := by decide +kernel
theorem dX8_weighPasses_85 : decode cX8_weighPasses 85 = .ok (.iaload, 1) := by decide +kernel
theorem dX8_weighPasses_86 : decode cX8_weighPasses 86 = .ok (.if_icmp .le 18, 3) := by decide +kernel
theorem dX8_weighPasses_89 : decode cX8_weighPasses 89 = .ok (.aload_n 0, 1) := by decide +kernel
theorem dX8_weighPasses_90 : decode cX8_weighPasses 90 = .ok (.getfield 55, 3) := by decide +kernel
theorem dX8_weighPasses_93 : decode cX8_weighPasses 93 = .ok (.iload_n 3, 1) := by decide +kernel
theorem dX8_weighPasses_94 : decode cX8_weighPasses 94 = .ok (.iload 5, 2) := by decide +kernel
theorem dX8_weighPasses_96 : decode cX8_weighPasses 96 = .ok (.iastore, 1) := by decide +kernel
theorem dX8_weighPasses_97 : decode cX8_weighPasses 97 = .ok (.aload_n 0, 1) := by decide +kernel
theorem dX8_weighPasses_98 : decode cX8_weighPasses 98 = .ok (.getfield 58, 3) := by decide +kernel
theorem dX8_weighPasses_101 : decode cX8_weighPasses 101 = .ok (.iload_n 3, 1) := by decide +kernel
theorem dX8_weighPasses_102 : decode cX8_weighPasses 102 = .ok (.iload_n 1, 1) := by decide +kernel
theorem dX8_weighPasses_103 : decode cX8_weighPasses 103 = .ok (.iastore, 1) := by decide +kernel
theorem dX8_weighPasses_104 : decode cX8_weighPasses 104 = .ok (.iinc 3 (-1), 3) := by decide +kernel
theorem dX8_weighPasses_107 : decode cX8_weighPasses 107 = .ok (.goto (-96), 3) := by decide +kernel
theorem dX8_weighPasses_110 : decode cX8_weighPasses 110 = .ok (.return_, 1) := by decide +kernel
theorem dX8_markPassesFrom_0 : decode cX8_markPassesFrom 0 = .ok (.iload_n 1, 1) := by decide +kernel
theorem dX8_markPassesFrom_1 : decode cX8_markPassesFrom 1 = .ok (.iload_n 2, 1) := by decide +kernel
theorem dX8_markPassesFrom_2 : decode cX8_markPassesFrom 2 = .ok (.iadd, 1) := by decide +kernel
theorem dX8_markPassesFrom_3 : decode cX8_markPassesFrom 3 = .ok (.istore_n 3, 1) := by decide +kernel
theorem dX8_markPassesFrom_4 : decode cX8_markPassesFrom 4 = .ok (.iload_n 3, 1) := by decide +kernel
theorem dX8_markPassesFrom_5 : decode cX8_markPassesFrom 5 = .ok (.iload_n 2, 1) := by decide +kernel
theorem dX8_markPassesFrom_6 : decode cX8_markPassesFrom 6 = .ok (.iadd, 1) := by decide +kernel
theorem dX8_markPassesFrom_7 : decode cX8_markPassesFrom 7 = .ok (.istore 4, 2) := by decide +kernel
theorem dX8_markPassesFrom_9 : decode cX8_markPassesFrom 9 = .ok (.iload_n 2, 1) := by decide +kernel
theorem dX8_markPassesFrom_10 : decode cX8_markPassesFrom 10 = .ok (.ifCond .le 52, 3) := by decide +kernel
theorem dX8_markPassesFrom_13 : decode cX8_markPassesFrom 13 = .ok (.iload 4, 2) := by decide +kernel
theorem dX8_markPassesFrom_15 : decode cX8_markPassesFrom 15 = .ok (.aload_n 0, 1) := by decide +kernel
theorem dX8_markPassesFrom_16 : decode cX8_markPassesFrom 16 = .ok (.getfield 9, 3) := by decide +kernel
theorem dX8_markPassesFrom_19 : decode cX8_markPassesFrom 19 = .ok (.if_icmp .ge 43, 3) := by decide +kernel
theorem dX8_markPassesFrom_22 : decode cX8_markPassesFrom 22 = .ok (.aload_n 0, 1) := by decide +kernel
theorem dX8_markPassesFrom_23 : decode cX8_markPassesFrom 23 = .ok (.getfield 37, 3) := by decide +kernel
theorem dX8_markPassesFrom_26 : decode cX8_markPassesFrom 26 = .ok (.iload 4, 2) := by decide +kernel
theorem dX8_markPassesFrom_28 : decode cX8_markPassesFrom 28 = .ok (.iaload, 1) := by decide +kernel
theorem dX8_markPassesFrom_29 : decode cX8_markPassesFrom 29 = .ok (.istore 5, 2) := by decide +kernel
theorem dX8_markPassesFrom_31 : decode cX8_markPassesFrom 31 = .ok (.aload_n 0, 1) := by decide +kernel
theorem dX8_markPassesFrom_32 : decode cX8_markPassesFrom 32 = .ok (.getfield 49, 3) := by decide +kernel
theorem dX8_markPassesFrom_35 : decode cX8_markPassesFrom 35 = .ok (.iload 5, 2) := by decide +kernel
theorem dX8_markPassesFrom_37 : decode cX8_markPassesFrom 37 = .ok (.aload_n 0, 1) := by decide +kernel
theorem dX8_markPassesFrom_38 : decode cX8_markPassesFrom 38 = .ok (.getfield 55, 3) := by decide +kernel
theorem dX8_markPassesFrom_41 : decode cX8_markPassesFrom 41 = .ok (.iload_n 1, 1) := by decide +kernel
theorem dX8_markPassesFrom_42 : decode cX8_markPassesFrom 42 = .ok (.iaload, 1) := by decide +kernel
theorem dX8_markPassesFrom_43 : decode cX8_markPassesFrom 43 = .ok (.iload_n 2, 1) := by decide +kernel
theorem dX8_markPassesFrom_44 : decode cX8_markPassesFrom 44 = .ok (.idiv, 1) := by decide +kernel
theorem dX8_markPassesFrom_45 : decode cX8_markPassesFrom 45 = .ok (.iastore, 1) := by decide +kernel
theorem dX8_markPassesFrom_46 : decode cX8_markPassesFrom 46 = .ok (.aload_n 0, 1) := by decide +kernel
theorem dX8_markPassesFrom_47 : decode cX8_markPassesFrom 47 = .ok (.getfield 52, 3) := by decide +kernel
theorem dX8_markPassesFrom_50 : decode cX8_markPassesFrom 50 = .ok (.iload 5, 2) := by decide +kernel
theorem dX8_markPassesFrom_52 : decode cX8_markPassesFrom 52 = .ok (.iload 5, 2) := by decide +kernel
theorem dX8_markPassesFrom_54 : decode cX8_markPassesFrom 54 = .ok (.aload_n 0, 1) := by decide +kernel
theorem dX8_markPassesFrom_55 : decode cX8_markPassesFrom 55 = .ok (.getfield 37, 3) := by decide +kernel
theorem dX8_markPassesFrom_58 : decode cX8_markPassesFrom 58 = .ok (.iload_n 3, 1) := by decide +kernel
theorem dX8_markPassesFrom_59 : decode cX8_markPassesFrom 59 = .ok (.iaload, 1) := by decide +kernel
theorem dX8_markPassesFrom_60 : decode cX8_markPassesFrom 60 = .ok (.isub, 1) := by decide +kernel
theorem dX8_markPassesFrom_61 : decode cX8_markPassesFrom 61 = .ok (.iastore, 1) := by decide +kernel
theorem dX8_markPassesFrom_62 : decode cX8_markPassesFrom 62 = .ok (.iconst 2, 1) := by decide +kernel
theorem dX8_markPassesFrom_63 : decode cX8_markPassesFrom 63 = .ok (.iload_n 2, 1) := by decide +kernel
theorem dX8_markPassesFrom_64 : decode cX8_markPassesFrom 64 = .ok (.imul, 1) := by decide +kernel
theorem dX8_markPassesFrom_65 : decode cX8_markPassesFrom 65 = .ok (.aload_n 0, 1) := by decide +kernel
theorem dX8_markPassesFrom_66 : decode cX8_markPassesFrom 66 = .ok (.getfield 55, 3) := by decide +kernel
theorem dX8_markPassesFrom_69 : decode cX8_markPassesFrom 69 = .ok (.iload_n 1, 1) := by decide +kernel
theorem dX8_markPassesFrom_70 : decode cX8_markPassesFrom 70 = .ok (.iaload, 1) := by decide +kernel
theorem dX8_markPassesFrom_71 : decode cX8_markPassesFrom 71 = .ok (.iadd, 1) := by decide +kernel
theorem dX8_markPassesFrom_72 : decode cX8_markPassesFrom 72 = .ok (.ireturn, 1) := by decide +kernel
theorem dX8_readingsOf_0 : decode cX8_readingsOf 0 = .ok (.iconst 0, 1) := by decide +kernel
theorem dX8_readingsOf_1 : decode cX8_readingsOf 1 = .ok (.istore_n 2, 1) := by decide +kernel
theorem dX8_readingsOf_2 : decode cX8_readingsOf 2 = .ok (.iconst 0, 1) := by decide +kernel
theorem dX8_readingsOf_3 : decode cX8_readingsOf 3 = .ok (.istore_n 3, 1) := by decide +kernel
theorem dX8_readingsOf_4 : decode cX8_readingsOf 4 = .ok (.iload_n 3, 1) := by decide +kernel
theorem dX8_readingsOf_5 : decode cX8_readingsOf 5 = .ok (.aload_n 0, 1) := by decide +kernel
theorem dX8_readingsOf_6 : decode cX8_readingsOf 6 = .ok (.getfield 40, 3) := by decide +kernel
theorem dX8_readingsOf_9 : decode cX8_readingsOf 9 = .ok (.if_icmp .ge 22, 3) := by decide +kernel
theorem dX8_readingsOf_12 : decode cX8_readingsOf 12 = .ok (.aload_n 0, 1) := by decide +kernel
theorem dX8_readingsOf_13 : decode cX8_readingsOf 13 = .ok (.getfield 43, 3) := by decide +kernel
theorem dX8_readingsOf_16 : decode cX8_readingsOf 16 = .ok (.iload_n 3, 1) := by decide +kernel
theorem dX8_readingsOf_17 : decode cX8_readingsOf 17 = .ok (.iaload, 1) := by decide +kernel
theorem dX8_readingsOf_18 : decode cX8_readingsOf 18 = .ok (.iload_n 1, 1) := by decide +kernel
theorem dX8_readingsOf_19 : decode cX8_readingsOf 19 = .ok (.if_icmp .ne 6, 3) := by decide +kernel
theorem dX8_readingsOf_22 : decode cX8_readingsOf 22 = .ok (.iinc 2 1, 3) := by decide +kernel
theorem dX8_readingsOf_25 : decode cX8_readingsOf 25 = .ok (.iinc 3 1, 3) := by decide +kernel
theorem dX8_readingsOf_28 : decode cX8_readingsOf 28 = .ok (.goto (-24), 3) := by decide +kernel
theorem dX8_readingsOf_31 : decode cX8_readingsOf 31 = .ok (.iload_n 2, 1) := by decide +kernel
theorem dX8_readingsOf_32 : decode cX8_readingsOf 32 = .ok (.ireturn, 1) := by decide +kernel
theorem dX9_init_0 : decode cX9_init 0 = .ok (.aload_n 0, 1) := by decide +kernel
theorem dX9_init_1 : decode cX9_init 1 = .ok (.invokespecial 1, 3) := by decide +kernel
theorem dX9_init_4 : decode cX9_init 4 = .ok (.new 7, 3) := by decide +kernel
theorem dX9_init_7 : decode cX9_init 7 = .ok (.dup, 1) := by decide +kernel
theorem dX9_init_8 : decode cX9_init 8 = .ok (.invokespecial 9, 3) := by decide +kernel
theorem dX9_init_11 : decode cX9_init 11 = .ok (.astore_n 1, 1) := by decide +kernel
theorem dX9_init_12 : decode cX9_init 12 = .ok (.new 10, 3) := by decide +kernel
theorem dX9_init_15 : decode cX9_init 15 = .ok (.dup, 1) := by decide +kernel
theorem dX9_init_16 : decode cX9_init 16 = .ok (.invokespecial 12, 3) := by decide +kernel
theorem dX9_init_19 : decode cX9_init 19 = .ok (.astore_n 2, 1) := by decide +kernel
theorem dX9_init_20 : decode cX9_init 20 = .ok (.new 13, 3) := by decide +kernel
theorem dX9_init_23 : decode cX9_init 23 = .ok (.dup, 1) := by decide +kernel
theorem dX9_init_24 : decode cX9_init 24 = .ok (.aload_n 2, 1) := by decide +kernel
theorem dX9_init_25 : decode cX9_init 25 = .ok (.invokespecial 15, 3) := by decide +kernel
theorem dX9_init_28 : decode cX9_init 28 = .ok (.astore_n 3, 1) := by decide +kernel
theorem dX9_init_29 : decode cX9_init 29 = .ok (.new 18, 3) := by decide +kernel
theorem dX9_init_32 : decode cX9_init 32 = .ok (.dup, 1) := by decide +kernel
theorem dX9_init_33 : decode cX9_init 33 = .ok (.aload_n 2, 1) := by decide +kernel
theorem dX9_init_34 : decode cX9_init 34 = .ok (.aload_n 3, 1) := by decide +kernel
theorem dX9_init_35 : decode cX9_init 35 = .ok (.invokespecial 20, 3) := by decide +kernel
theorem dX9_init_38 : decode cX9_init 38 = .ok (.astore 4, 2) := by decide +kernel
theorem dX9_init_40 : decode cX9_init 40 = .ok (.aload_n 0, 1) := by decide +kernel
theorem dX9_init_41 : decode cX9_init 41 = .ok (.aload_n 1, 1) := by decide +kernel
theorem dX9_init_42 : decode cX9_init 42 = .ok (.putfield 23, 3) := by decide +kernel
theorem dX9_init_45 : decode cX9_init 45 = .ok (.aload_n 0, 1) := by decide +kernel
theorem dX9_init_46 : decode cX9_init 46 = .ok (.new 29, 3) := by decide +kernel
theorem dX9_init_49 : decode cX9_init 49 = .ok (.dup, 1) := by decide +kernel
theorem dX9_init_50 : decode cX9_init 50 = .ok (.aload_n 1, 1) := by decide +kernel
theorem dX9_init_51 : decode cX9_init 51 = .ok (.invokespecial 31, 3) := by decide +kernel
theorem dX9_init_54 : decode cX9_init 54 = .ok (.putfield 34, 3) := by decide +kernel
theorem dX9_init_57 : decode cX9_init 57 = .ok (.aload_n 0, 1) := by decide +kernel
theorem dX9_init_58 : decode cX9_init 58 = .ok (.new 10, 3) := by decide +kernel
theorem dX9_init_61 : decode cX9_init 61 = .ok (.dup, 1) := by decide +kernel
theorem dX9_init_62 : decode cX9_init 62 = .ok (.invokespecial 12, 3) := by decide +kernel
theorem dX9_init_65 : decode cX9_init 65 = .ok (.putfield 38, 3) := by decide +kernel
theorem dX9_init_68 : decode cX9_init 68 = .ok (.aload_n 0, 1) := by decide +kernel
theorem dX9_init_69 : decode cX9_init 69 = .ok (.aload_n 2, 1) := by decide +kernel
theorem dX9_init_70 : decode cX9_init 70 = .ok (.putfield 42, 3) := by decide +kernel
theorem dX9_init_73 : decode cX9_init 73 = .ok (.aload_n 0, 1) := by decide +kernel
theorem dX9_init_74 : decode cX9_init 74 = .ok (.aload_n 3, 1) := by decide +kernel
theorem dX9_init_75 : decode cX9_init 75 = .ok (.putfield 45, 3) := by decide +kernel
theorem dX9_init_78 : decode cX9_init 78 = .ok (.aload_n 0, 1) := by decide +kernel
theorem dX9_init_79 : decode cX9_init 79 = .ok (.aload 4, 2) := by decide +kernel
theorem dX9_init_81 : decode cX9_init 81 = .ok (.putfield 49, 3) := by decide +kernel
theorem dX9_init_84 : decode cX9_init 84 = .ok (.aload_n 0, 1) := by decide +kernel
theorem dX9_init_85 : decode cX9_init 85 = .ok (.new 53, 3) := by decide +kernel
theorem dX9_init_88 : decode cX9_init 88 = .ok (.dup, 1) := by decide +kernel
theorem dX9_init_89 : decode cX9_init 89 = .ok (.aload_n 2, 1) := by decide +kernel
theorem dX9_init_90 : decode cX9_init 90 = .ok (.aload_n 3, 1) := by decide +kernel
theorem dX9_init_91 : decode cX9_init 91 = .ok (.aload 4, 2) := by decide +kernel
theorem dX9_init_93 : decode cX9_init 93 = .ok (.invokespecial 55, 3) := by decide +kernel
theorem dX9_init_96 : decode cX9_init 96 = .ok (.putfield 58, 3) := by decide +kernel
theorem dX9_init_99 : decode cX9_init 99 = .ok (.aload_n 0, 1) := by decide +kernel
theorem dX9_init_100 : decode cX9_init 100 = .ok (.new 62, 3) := by decide +kernel
theorem dX9_init_103 : decode cX9_init 103 = .ok (.dup, 1) := by decide +kernel
theorem dX9_init_104 : decode cX9_init 104 = .ok (.aload_n 2, 1) := by decide +kernel
theorem dX9_init_105 : decode cX9_init 105 = .ok (.aload 4, 2) := by decide +kernel
theorem dX9_init_107 : decode cX9_init 107 = .ok (.invokespecial 64, 3) := by decide +kernel
theorem dX9_init_110 : decode cX9_init 110 = .ok (.putfield 67, 3) := by decide +kernel
theorem dX9_init_113 : decode cX9_init 113 = .ok (.aload_n 0, 1) := by decide +kernel
theorem dX9_init_114 : decode cX9_init 114 = .ok (.new 71, 3) := by decide +kernel
theorem dX9_init_117 : decode cX9_init 117 = .ok (.dup, 1) := by decide +kernel
theorem dX9_init_118 : decode cX9_init 118 = .ok (.invokespecial 73, 3) := by decide +kernel
theorem dX9_init_121 : decode cX9_init 121 = .ok (.putfield 74, 3) := by decide +kernel
theorem dX9_init_124 : decode cX9_init 124 = .ok (.aload_n 0, 1) := by decide +kernel
theorem dX9_init_125 : decode cX9_init 125 = .ok (.bipush 20, 2) := by decide +kernel
theorem dX9_init_127 : decode cX9_init 127 = .ok (.newarray .int, 2) := by decide +kernel
theorem dX9_init_129 : decode cX9_init 129 = .ok (.putfield 78, 3) := by decide +kernel
theorem dX9_init_132 : decode cX9_init 132 = .ok (.aload_n 0, 1) := by decide +kernel
theorem dX9_init_133 : decode cX9_init 133 = .ok (.bipush 20, 2) := by decide +kernel
theorem dX9_init_135 : decode cX9_init 135 = .ok (.newarray .int, 2) := by decide +kernel
theorem dX9_init_137 : decode cX9_init 137 = .ok (.putfield 82, 3) := by decide +kernel
theorem dX9_init_140 : decode cX9_init 140 = .ok (.aload_n 0, 1) := by decide +kernel
theorem dX9_init_141 : decode cX9_init 141 = .ok (.iconst 0, 1) := by decide +kernel
theorem dX9_init_142 : decode cX9_init 142 = .ok (.putfield 85, 3) := by decide +kernel
theorem dX9_init_145 : decode cX9_init 145 = .ok (.aload_n 0, 1) := by decide +kernel
theorem dX9_init_146 : decode cX9_init 146 = .ok (.iconst (-1), 1) := by decide +kernel
theorem dX9_init_147 : decode cX9_init 147 = .ok (.putfield 89, 3) := by decide +kernel
theorem dX9_init_150 : decode cX9_init 150 = .ok (.return_, 1) := by decide +kernel
theorem dX9_feed_0 : decode cX9_feed 0 = .ok (.aload_n 0, 1) := by decide +kernel
theorem dX9_feed_1 : decode cX9_feed 1 = .ok (.getfield 23, 3) := by decide +kernel
theorem dX9_feed_4 : decode cX9_feed 4 = .ok (.getfield 92, 3) := by decide +kernel
theorem dX9_feed_7 : decode cX9_feed 7 = .ok (.bipush 20, 2) := by decide +kernel
theorem dX9_feed_9 : decode cX9_feed 9 = .ok (.iadd, 1) := by decide +kernel
theorem dX9_feed_10 : decode cX9_feed 10 = .ok (.sipush 700, 3) := by decide +kernel
theorem dX9_feed_13 : decode cX9_feed 13 = .ok (.if_icmp .le 5, 3) := by decide +kernel
theorem dX9_feed_16 : decode cX9_feed 16 = .ok (.iconst (-1), 1) := by decide +kernel
theorem dX9_feed_17 : decode cX9_feed 17 = .ok (.ireturn, 1) := by decide +kernel
theorem dX9_feed_18 : decode cX9_feed 18 = .ok (.aload_n 0, 1) := by decide +kernel
theorem dX9_feed_19 : decode cX9_feed 19 = .ok (.getfield 23, 3) := by decide +kernel
theorem dX9_feed_22 : decode cX9_feed 22 = .ok (.iload_n 1, 1) := by decide +kernel
theorem dX9_feed_23 : decode cX9_feed 23 = .ok (.invokevirtual 95, 3) := by decide +kernel
theorem dX9_feed_26 : decode cX9_feed 26 = .ok (.aload_n 0, 1) := by decide +kernel
theorem dX9_feed_27 : decode cX9_feed 27 = .ok (.getfield 23, 3) := by decide +kernel
theorem dX9_feed_30 : decode cX9_feed 30 = .ok (.iload_n 2, 1) := by decide +kernel
theorem dX9_feed_31 : decode cX9_feed 31 = .ok (.invokevirtual 95, 3) := by decide +kernel
theorem dX9_feed_34 : decode cX9_feed 34 = .ok (.aload_n 0, 1) := by decide +kernel
theorem dX9_feed_35 : decode cX9_feed 35 = .ok (.getfield 23, 3) := by decide +kernel
theorem dX9_feed_38 : decode cX9_feed 38 = .ok (.iload_n 3, 1) := by decide +kernel
theorem dX9_feed_39 : decode cX9_feed 39 = .ok (.invokevirtual 95, 3) := by decide +kernel
theorem dX9_feed_42 : decode cX9_feed 42 = .ok (.aload_n 0, 1) := by decide +kernel
theorem dX9_feed_43 : decode cX9_feed 43 = .ok (.getfield 23, 3) := by decide +kernel
theorem dX9_feed_46 : decode cX9_feed 46 = .ok (.iload 4, 2) := by decide +kernel
theorem dX9_feed_48 : decode cX9_feed 48 = .ok (.invokevirtual 95, 3) := by decide +kernel
theorem dX9_feed_51 : decode cX9_feed 51 = .ok (.aload_n 0, 1) := by decide +kernel
theorem dX9_feed_52 : decode cX9_feed 52 = .ok (.getfield 23, 3) := by decide +kernel
theorem dX9_feed_55 : decode cX9_feed 55 = .ok (.iload 5, 2) := by decide +kernel
theorem dX9_feed_57 : decode cX9_feed 57 = .ok (.invokevirtual 95, 3) := by decide +kernel
theorem dX9_feed_60 : decode cX9_feed 60 = .ok (.aload_n 0, 1) := by decide +kernel
theorem dX9_feed_61 : decode cX9_feed 61 = .ok (.getfield 23, 3) := by decide +kernel
theorem dX9_feed_64 : decode cX9_feed 64 = .ok (.getfield 92, 3) := by decide +kernel
theorem dX9_feed_67 : decode cX9_feed 67 = .ok (.ireturn, 1) := by decide +kernel
theorem dX9_end_0 : decode cX9_end 0 = .ok (.iload_n 1, 1) := by decide +kernel
theorem dX9_end_1 : decode cX9_end 1 = .ok (.ifCond .lt 14, 3) := by decide +kernel
theorem dX9_end_4 : decode cX9_end 4 = .ok (.iload_n 1, 1) := by decide +kernel
theorem dX9_end_5 : decode cX9_end 5 = .ok (.aload_n 0, 1) := by decide +kernel
theorem dX9_end_6 : decode cX9_end 6 = .ok (.getfield 23, 3) := by decide +kernel
theorem dX9_end_9 : decode cX9_end 9 = .ok (.getfield 92, 3) := by decide +kernel
theorem dX9_end_12 : decode cX9_end 12 = .ok (.if_icmp .le 5, 3) := by decide +kernel
theorem dX9_end_15 : decode cX9_end 15 = .ok (.iconst (-1), 1) := by decide +kernel
theorem dX9_end_16 : decode cX9_end 16 = .ok (.ireturn, 1) := by decide +kernel
theorem dX9_end_17 : decode cX9_end 17 = .ok (.aload_n 0, 1) := by decide +kernel
theorem dX9_end_18 : decode cX9_end 18 = .ok (.getfield 23, 3) := by decide +kernel
theorem dX9_end_21 : decode cX9_end 21 = .ok (.iload_n 1, 1) := by decide +kernel
theorem dX9_end_22 : decode cX9_end 22 = .ok (.putfield 92, 3) := by decide +kernel
theorem dX9_end_25 : decode cX9_end 25 = .ok (.iload_n 1, 1) := by decide +kernel
theorem dX9_end_26 : decode cX9_end 26 = .ok (.ireturn, 1) := by decide +kernel
theorem dX9_drum_0 : decode cX9_drum 0 = .ok (.aload_n 0, 1) := by decide +kernel
theorem dX9_drum_1 : decode cX9_drum 1 = .ok (.getfield 34, 3) := by decide +kernel
theorem dX9_drum_4 : decode cX9_drum 4 = .ok (.aload_n 0, 1) := by decide +kernel
theorem dX9_drum_5 : decode cX9_drum 5 = .ok (.getfield 38, 3) := by decide +kernel
theorem dX9_drum_8 : decode cX9_drum 8 = .ok (.invokevirtual 99, 3) := by decide +kernel
theorem dX9_drum_11 : decode cX9_drum 11 = .ok (.aload_n 0, 1) := by decide +kernel
theorem dX9_drum_12 : decode cX9_drum 12 = .ok (.aload_n 0, 1) := by decide +kernel
theorem dX9_drum_13 : decode cX9_drum 13 = .ok (.getfield 34, 3) := by decide +kernel
theorem dX9_drum_16 : decode cX9_drum 16 = .ok (.getfield 102, 3) := by decide +kernel
theorem dX9_drum_19 : decode cX9_drum 19 = .ok (.putfield 85, 3) := by decide +kernel
theorem dX9_drum_22 : decode cX9_drum 22 = .ok (.aload_n 0, 1) := by decide +kernel
theorem dX9_drum_23 : decode cX9_drum 23 = .ok (.aload_n 0, 1) := by decide +kernel
theorem dX9_drum_24 : decode cX9_drum 24 = .ok (.getfield 34, 3) := by decide +kernel
theorem dX9_drum_27 : decode cX9_drum 27 = .ok (.getfield 103, 3) := by decide +kernel
theorem dX9_drum_30 : decode cX9_drum 30 = .ok (.putfield 89, 3) := by decide +kernel
theorem dX9_drum_33 : decode cX9_drum 33 = .ok (.aload_n 0, 1) := by decide +kernel
theorem dX9_drum_34 : decode cX9_drum 34 = .ok (.getfield 23, 3) := by decide +kernel
theorem dX9_drum_37 : decode cX9_drum 37 = .ok (.iconst 0, 1) := by decide +kernel
theorem dX9_drum_38 : decode cX9_drum 38 = .ok (.putfield 92, 3) := by decide +kernel
theorem dX9_drum_41 : decode cX9_drum 41 = .ok (.aload_n 0, 1) := by decide +kernel
theorem dX9_drum_42 : decode cX9_drum 42 = .ok (.getfield 85, 3) := by decide +kernel
theorem dX9_drum_45 : decode cX9_drum 45 = .ok (.ifCond .eq 6, 3) := by decide +kernel
theorem dX9_drum_48 : decode cX9_drum 48 = .ok (.bipush (-4), 2) := by decide +kernel
theorem dX9_drum_50 : decode cX9_drum 50 = .ok (.ireturn, 1) := by decide +kernel
theorem dX9_drum_51 : decode cX9_drum 51 = .ok (.aload_n 0, 1) := by decide +kernel
theorem dX9_drum_52 : decode cX9_drum 52 = .ok (.getfield 42, 3) := by decide +kernel
theorem dX9_drum_55 : decode cX9_drum 55 = .ok (.aload_n 0, 1) := by decide +kernel
theorem dX9_drum_56 : decode cX9_drum 56 = .ok (.getfield 38, 3) := by decide +kernel
theorem dX9_drum_59 : decode cX9_drum 59 = .ok (.invokevirtual 104, 3) := by decide +kernel
theorem dX9_drum_62 : decode cX9_drum 62 = .ok (.aload_n 0, 1) := by decide +kernel
theorem dX9_drum_63 : decode cX9_drum 63 = .ok (.getfield 45, 3) := by decide +kernel
theorem dX9_drum_66 : decode cX9_drum 66 = .ok (.invokevirtual 107, 3) := by decide +kernel
theorem dX9_drum_69 : decode cX9_drum 69 = .ok (.aload_n 0, 1) := by decide +kernel
theorem dX9_drum_70 : decode cX9_drum 70 = .ok (.getfield 58, 3) := by decide +kernel
theorem dX9_drum_73 : decode cX9_drum 73 = .ok (.aload_n 0, 1) := by decide +kernel
theorem dX9_drum_74 : decode cX9_drum 74 = .ok (.getfield 78, 3) := by decide +kernel
theorem dX9_drum_77 : decode cX9_drum 77 = .ok (.invokevirtual 110, 3) := by decide +kernel
theorem dX9_drum_80 : decode cX9_drum 80 = .ok (.aload_n 0, 1) := by decide +kernel
theorem dX9_drum_81 : decode cX9_drum 81 = .ok (.getfield 67, 3) := by decide +kernel
theorem dX9_drum_84 : decode cX9_drum 84 = .ok (.invokevirtual 114, 3) := by decide +kernel
theorem dX9_drum_87 : decode cX9_drum 87 = .ok (.aload_n 0, 1) := by decide +kernel
theorem dX9_drum_88 : decode cX9_drum 88 = .ok (.getfield 74, 3) := by decide +kernel
theorem dX9_drum_91 : decode cX9_drum 91 = .ok (.iconst 0, 1) := by decide +kernel
theorem dX9_drum_92 : decode cX9_drum 92 = .ok (.putfield 117, 3) := by decide +kernel
theorem dX9_drum_95 : decode cX9_drum 95 = .ok (.aload_n 0, 1) := by decide +kernel
theorem dX9_drum_96 : decode cX9_drum 96 = .ok (.getfield 42, 3) := by decide +kernel
theorem dX9_drum_99 : decode cX9_drum 99 = .ok (.getfield 120, 3) := by decide +kernel
theorem dX9_drum_102 : decode cX9_drum 102 = .ok (.ireturn, 1) := by decide +kernel
theorem dX9_fault_0 : decode cX9_fault 0 = .ok (.iload_n 1, 1) := by decide +kernel
theorem dX9_fault_1 : decode cX9_fault 1 = .ok (.lookupswitch 37 #[(0, 27), (1, 32)], 27) := by decide +kernel
theorem dX9_fault_28 : decode cX9_fault 28 = .ok (.aload_n 0, 1) := by decide +kernel
theorem dX9_fault_29 : decode cX9_fault 29 = .ok (.getfield 85, 3) := by decide +kernel
theorem dX9_fault_32 : decode cX9_fault 32 = .ok (.ireturn, 1) := by decide +kernel
theorem dX9_fault_33 : decode cX9_fault 33 = .ok (.aload_n 0, 1) := by decide +kernel
theorem dX9_fault_34 : decode cX9_fault 34 = .ok (.getfield 89, 3) := by decide +kernel
theorem dX9_fault_37 : decode cX9_fault 37 = .ok (.ireturn, 1) := by decide +kernel
theorem dX9_fault_38 : decode cX9_fault 38 = .ok (.iconst (-1), 1) := by decide +kernel
theorem dX9_fault_39 : decode cX9_fault 39 = .ok (.ireturn, 1) := by decide +kernel
theorem dX9_count_0 : decode cX9_count 0 = .ok (.iload_n 1, 1) := by decide +kernel
theorem dX9_count_1 : decode cX9_count 1 = .ok (.tableswitch 147 0 10 #[59, 67, 75, 83, 91, 99, 107, 115, 123, 131, 139], 59) := by decide +kernel
theorem dX9_count_60 : decode cX9_count 60 = .ok (.aload_n 0, 1) := by decide +kernel
theorem dX9_count_61 : decode cX9_count 61 = .ok (.getfield 42, 3) := by decide +kernel
theorem dX9_count_64 : decode cX9_count 64 = .ok (.getfield 123, 3) := by decide +kernel
theorem dX9_count_67 : decode cX9_count 67 = .ok (.ireturn, 1) := by decide +kernel
theorem dX9_count_68 : decode cX9_count 68 = .ok (.aload_n 0, 1) := by decide +kernel
theorem dX9_count_69 : decode cX9_count 69 = .ok (.getfield 42, 3) := by decide +kernel
theorem dX9_count_72 : decode cX9_count 72 = .ok (.getfield 126, 3) := by decide +kernel
theorem dX9_count_75 : decode cX9_count 75 = .ok (.ireturn, 1) := by decide +kernel
theorem dX9_count_76 : decode cX9_count 76 = .ok (.aload_n 0, 1) := by decide +kernel
theorem dX9_count_77 : decode cX9_count 77 = .ok (.getfield 42, 3) := by decide +kernel
theorem dX9_count_80 : decode cX9_count 80 = .ok (.getfield 129, 3) := by decide +kernel
theorem dX9_count_83 : decode cX9_count 83 = .ok (.ireturn, 1) := by decide +kernel
theorem dX9_count_84 : decode cX9_count 84 = .ok (.aload_n 0, 1) := by decide +kernel
theorem dX9_count_85 : decode cX9_count 85 = .ok (.getfield 42, 3) := by decide +kernel
theorem dX9_count_88 : decode cX9_count 88 = .ok (.getfield 132, 3) := by decide +kernel
theorem dX9_count_91 : decode cX9_count 91 = .ok (.ireturn, 1) := by decide +kernel
theorem dX9_count_92 : decode cX9_count 92 = .ok (.aload_n 0, 1) := by decide +kernel
theorem dX9_count_93 : decode cX9_count 93 = .ok (.getfield 42, 3) := by decide +kernel
theorem dX9_count_96 : decode cX9_count 96 = .ok (.getfield 135, 3) := by decide +kernel
theorem dX9_count_99 : decode cX9_count 99 = .ok (.ireturn, 1) := by decide +kernel
theorem dX9_count_100 : decode cX9_count 100 = .ok (.aload_n 0, 1) := by decide +kernel
theorem dX9_count_101 : decode cX9_count 101 = .ok (.getfield 42, 3) := by decide +kernel
theorem dX9_count_104 : decode cX9_count 104 = .ok (.getfield 138, 3) := by decide +kernel
theorem dX9_count_107 : decode cX9_count 107 = .ok (.ireturn, 1) := by decide +kernel
theorem dX9_count_108 : decode cX9_count 108 = .ok (.aload_n 0, 1) := by decide +kernel
theorem dX9_count_109 : decode cX9_count 109 = .ok (.getfield 42, 3) := by decide +kernel
theorem dX9_count_112 : decode cX9_count 112 = .ok (.getfield 141, 3) := by decide +kernel
theorem dX9_count_115 : decode cX9_count 115 = .ok (.ireturn, 1) := by decide +kernel
theorem dX9_count_116 : decode cX9_count 116 = .ok (.aload_n 0, 1) := by decide +kernel
theorem dX9_count_117 : decode cX9_count 117 = .ok (.getfield 42, 3) := by decide +kernel
theorem dX9_count_120 : decode cX9_count 120 = .ok (.invokevirtual 144, 3) := by decide +kernel
theorem dX9_count_123 : decode cX9_count 123 = .ok (.ireturn, 1) := by decide +kernel
theorem dX9_count_124 : decode cX9_count 124 = .ok (.aload_n 0, 1) := by decide +kernel
theorem dX9_count_125 : decode cX9_count 125 = .ok (.getfield 74, 3) := by decide +kernel
theorem dX9_count_128 : decode cX9_count 128 = .ok (.getfield 117, 3) := by decide +kernel
theorem dX9_count_131 : decode cX9_count 131 = .ok (.ireturn, 1) := by decide +kernel
theorem dX9_count_132 : decode cX9_count 132 = .ok (.aload_n 0, 1) := by decide +kernel
theorem dX9_count_133 : decode cX9_count 133 = .ok (.getfield 42, 3) := by decide +kernel
theorem dX9_count_136 : decode cX9_count 136 = .ok (.getfield 120, 3) := by decide +kernel
theorem dX9_count_139 : decode cX9_count 139 = .ok (.ireturn, 1) := by decide +kernel
theorem dX9_count_140 : decode cX9_count 140 = .ok (.aload_n 0, 1) := by decide +kernel
theorem dX9_count_141 : decode cX9_count 141 = .ok (.getfield 23, 3) := by decide +kernel
theorem dX9_count_144 : decode cX9_count 144 = .ok (.getfield 92, 3) := by decide +kernel
theorem dX9_count_147 : decode cX9_count 147 = .ok (.ireturn, 1) := by decide +kernel
theorem dX9_count_148 : decode cX9_count 148 = .ok (.iconst (-1), 1) := by decide +kernel
theorem dX9_count_149 : decode cX9_count 149 = .ok (.ireturn, 1) := by decide +kernel
theorem dX9_item_0 : decode cX9_item 0 = .ok (.aload_n 0, 1) := by decide +kernel
theorem dX9_item_1 : decode cX9_item 1 = .ok (.getfield 42, 3) := by decide +kernel
theorem dX9_item_4 : decode cX9_item 4 = .ok (.iload_n 1, 1) := by decide +kernel
theorem dX9_item_5 : decode cX9_item 5 = .ok (.invokevirtual 148, 3) := by decide +kernel
theorem dX9_item_8 : decode cX9_item 8 = .ok (.ifCond .ne 6, 3) := by decide +kernel
theorem dX9_item_11 : decode cX9_item 11 = .ok (.bipush (-2), 2) := by decide +kernel
theorem dX9_item_13 : decode cX9_item 13 = .ok (.ireturn, 1) := by decide +kernel
theorem dX9_item_14 : decode cX9_item 14 = .ok (.iload_n 2, 1) := by decide +kernel
theorem dX9_item_15 : decode cX9_item 15 = .ok (.tableswitch 80 0 3 #[29, 46, 53, 70], 29) := by decide +kernel
theorem dX9_item_44 : decode cX9_item 44 = .ok (.aload_n 0, 1) := by decide +kernel
theorem dX9_item_45 : decode cX9_item 45 = .ok (.getfield 42, 3) := by decide +kernel
theorem dX9_item_48 : decode cX9_item 48 = .ok (.iload_n 1, 1) := by decide +kernel
theorem dX9_item_49 : decode cX9_item 49 = .ok (.invokevirtual 152, 3) := by decide +kernel
theorem dX9_item_52 : decode cX9_item 52 = .ok (.ifCond .eq 7, 3) := by decide +kernel
theorem dX9_item_55 : decode cX9_item 55 = .ok (.iconst 1, 1) := by decide +kernel
theorem dX9_item_56 : decode cX9_item 56 = .ok (.goto 4, 3) := by decide +kernel
theorem dX9_item_59 : decode cX9_item 59 = .ok (.iconst 0, 1) := by decide +kernel
theorem dX9_item_60 : decode cX9_item 60 = .ok (.ireturn, 1) := by decide +kernel
theorem dX9_item_61 : decode cX9_item 61 = .ok (.aload_n 0, 1) := by decide +kernel
theorem dX9_item_62 : decode cX9_item 62 = .ok (.getfield 78, 3) := by decide +kernel
theorem dX9_item_65 : decode cX9_item 65 = .ok (.iload_n 1, 1) := by decide +kernel
theorem dX9_item_66 : decode cX9_item 66 = .ok (.iaload, 1) := by decide +kernel
theorem dX9_item_67 : decode cX9_item 67 = .ok (.ireturn, 1) := by decide +kernel
theorem dX9_item_68 : decode cX9_item 68 = .ok (.aload_n 0, 1) := by decide +kernel
theorem dX9_item_69 : decode cX9_item 69 = .ok (.getfield 42, 3) := by decide +kernel
theorem dX9_item_72 : decode cX9_item 72 = .ok (.iload_n 1, 1) := by decide +kernel
theorem dX9_item_73 : decode cX9_item 73 = .ok (.invokevirtual 155, 3) := by decide +kernel
theorem dX9_item_76 : decode cX9_item 76 = .ok (.ifCond .eq 7, 3) := by decide +kernel
theorem dX9_item_79 : decode cX9_item 79 = .ok (.iconst 1, 1) := by decide +kernel
theorem dX9_item_80 : decode cX9_item 80 = .ok (.goto 4, 3) := by decide +kernel
theorem dX9_item_83 : decode cX9_item 83 = .ok (.iconst 0, 1) := by decide +kernel
theorem dX9_item_84 : decode cX9_item 84 = .ok (.ireturn, 1) := by decide +kernel
theorem dX9_item_85 : decode cX9_item 85 = .ok (.aload_n 0, 1) := by decide +kernel
theorem dX9_item_86 : decode cX9_item 86 = .ok (.getfield 42, 3) := by decide +kernel
theorem dX9_item_89 : decode cX9_item 89 = .ok (.getfield 158, 3) := by decide +kernel
theorem dX9_item_92 : decode cX9_item 92 = .ok (.iload_n 1, 1) := by decide +kernel
theorem dX9_item_93 : decode cX9_item 93 = .ok (.iaload, 1) := by decide +kernel
theorem dX9_item_94 : decode cX9_item 94 = .ok (.ireturn, 1) := by decide +kernel
theorem dX9_item_95 : decode cX9_item 95 = .ok (.bipush (-2), 2) := by decide +kernel
theorem dX9_item_97 : decode cX9_item 97 = .ok (.ireturn, 1) := by decide +kernel
theorem dX9_at_0 : decode cX9_at 0 = .ok (.aload_n 0, 1) := by decide +kernel
theorem dX9_at_1 : decode cX9_at 1 = .ok (.getfield 42, 3) := by decide +kernel
theorem dX9_at_4 : decode cX9_at 4 = .ok (.iload_n 1, 1) := by decide +kernel
theorem dX9_at_5 : decode cX9_at 5 = .ok (.invokevirtual 161, 3) := by decide +kernel
theorem dX9_at_8 : decode cX9_at 8 = .ok (.ifCond .eq 11, 3) := by decide +kernel
theorem dX9_at_11 : decode cX9_at 11 = .ok (.aload_n 0, 1) := by decide +kernel
theorem dX9_at_12 : decode cX9_at 12 = .ok (.iload_n 1, 1) := by decide +kernel
theorem dX9_at_13 : decode cX9_at 13 = .ok (.invokevirtual 164, 3) := by decide +kernel
theorem dX9_at_16 : decode cX9_at 16 = .ok (.goto 5, 3) := by decide +kernel
theorem dX9_at_19 : decode cX9_at 19 = .ok (.bipush (-2), 2) := by decide +kernel
theorem dX9_at_21 : decode cX9_at 21 = .ok (.ireturn, 1) := by decide +kernel
theorem dX9_steps_0 : decode cX9_steps 0 = .ok (.aload_n 0, 1) := by decide +kernel
theorem dX9_steps_1 : decode cX9_steps 1 = .ok (.getfield 42, 3) := by decide +kernel
theorem dX9_steps_4 : decode cX9_steps 4 = .ok (.getfield 141, 3) := by decide +kernel
theorem dX9_steps_7 : decode cX9_steps 7 = .ok (.ifCond .le 13, 3) := by decide +kernel
theorem dX9_steps_10 : decode cX9_steps 10 = .ok (.aload_n 0, 1) := by decide +kernel
theorem dX9_steps_11 : decode cX9_steps 11 = .ok (.getfield 45, 3) := by decide +kernel
theorem dX9_steps_14 : decode cX9_steps 14 = .ok (.getfield 168, 3) := by decide +kernel
theorem dX9_steps_17 : decode cX9_steps 17 = .ok (.goto 5, 3) := by decide +kernel
theorem dX9_steps_20 : decode cX9_steps 20 = .ok (.bipush (-2), 2) := by decide +kernel
theorem dX9_steps_22 : decode cX9_steps 22 = .ok (.ireturn, 1) := by decide +kernel
theorem dX9_why_0 : decode cX9_why 0 = .ok (.aload_n 0, 1) := by decide +kernel
theorem dX9_why_1 : decode cX9_why 1 = .ok (.getfield 42, 3) := by decide +kernel
theorem dX9_why_4 : decode cX9_why 4 = .ok (.getfield 141, 3) := by decide +kernel
theorem dX9_why_7 : decode cX9_why 7 = .ok (.ifCond .le 13, 3) := by decide +kernel
theorem dX9_why_10 : decode cX9_why 10 = .ok (.aload_n 0, 1) := by decide +kernel
theorem dX9_why_11 : decode cX9_why 11 = .ok (.getfield 45, 3) := by decide +kernel
theorem dX9_why_14 : decode cX9_why 14 = .ok (.getfield 171, 3) := by decide +kernel
theorem dX9_why_17 : decode cX9_why 17 = .ok (.goto 5, 3) := by decide +kernel
theorem dX9_why_20 : decode cX9_why 20 = .ok (.bipush (-2), 2) := by decide +kernel
theorem dX9_why_22 : decode cX9_why 22 = .ok (.ireturn, 1) := by decide +kernel
theorem dX9_acc_0 : decode cX9_acc 0 = .ok (.aload_n 0, 1) := by decide +kernel
theorem dX9_acc_1 : decode cX9_acc 1 = .ok (.getfield 42, 3) := by decide +kernel
theorem dX9_acc_4 : decode cX9_acc 4 = .ok (.getfield 141, 3) := by decide +kernel
theorem dX9_acc_7 : decode cX9_acc 7 = .ok (.ifCond .le 13, 3) := by decide +kernel
theorem dX9_acc_10 : decode cX9_acc 10 = .ok (.aload_n 0, 1) := by decide +kernel
theorem dX9_acc_11 : decode cX9_acc 11 = .ok (.getfield 45, 3) := by decide +kernel
theorem dX9_acc_14 : decode cX9_acc 14 = .ok (.getfield 174, 3) := by decide +kernel
theorem dX9_acc_17 : decode cX9_acc 17 = .ok (.goto 6, 3) := by decide +kernel
theorem dX9_acc_20 : decode cX9_acc 20 = .ok (.sipush (-20000), 3) := by decide +kernel
theorem dX9_acc_23 : decode cX9_acc 23 = .ok (.ireturn, 1) := by decide +kernel
theorem dX9_value_0 : decode cX9_value 0 = .ok (.aload_n 0, 1) := by decide +kernel
theorem dX9_value_1 : decode cX9_value 1 = .ok (.getfield 42, 3) := by decide +kernel
theorem dX9_value_4 : decode cX9_value 4 = .ok (.getfield 141, 3) := by decide +kernel
theorem dX9_value_7 : decode cX9_value 7 = .ok (.ifCond .le 26, 3) := by decide +kernel
theorem dX9_value_10 : decode cX9_value 10 = .ok (.aload_n 0, 1) := by decide +kernel
theorem dX9_value_11 : decode cX9_value 11 = .ok (.getfield 42, 3) := by decide +kernel
theorem dX9_value_14 : decode cX9_value 14 = .ok (.iload_n 1, 1) := by decide +kernel
theorem dX9_value_15 : decode cX9_value 15 = .ok (.invokevirtual 177, 3) := by decide +kernel
theorem dX9_value_18 : decode cX9_value 18 = .ok (.ifCond .eq 15, 3) := by decide +kernel
theorem dX9_value_21 : decode cX9_value 21 = .ok (.aload_n 0, 1) := by decide +kernel
theorem dX9_value_22 : decode cX9_value 22 = .ok (.getfield 45, 3) := by decide +kernel
theorem dX9_value_25 : decode cX9_value 25 = .ok (.getfield 180, 3) := by decide +kernel
theorem dX9_value_28 : decode cX9_value 28 = .ok (.iload_n 1, 1) := by decide +kernel
theorem dX9_value_29 : decode cX9_value 29 = .ok (.iaload, 1) := by decide +kernel
theorem dX9_value_30 : decode cX9_value 30 = .ok (.goto 6, 3) := by decide +kernel
theorem dX9_value_33 : decode cX9_value 33 = .ok (.sipush (-20000), 3) := by decide +kernel
theorem dX9_value_36 : decode cX9_value 36 = .ok (.ireturn, 1) := by decide +kernel
theorem dX9_done_0 : decode cX9_done 0 = .ok (.aload_n 0, 1) := by decide +kernel
theorem dX9_done_1 : decode cX9_done 1 = .ok (.getfield 42, 3) := by decide +kernel
theorem dX9_done_4 : decode cX9_done 4 = .ok (.getfield 141, 3) := by decide +kernel
theorem dX9_done_7 : decode cX9_done 7 = .ok (.ifCond .eq 16, 3) := by decide +kernel
theorem dX9_done_10 : decode cX9_done 10 = .ok (.iload_n 1, 1) := by decide +kernel
theorem dX9_done_11 : decode cX9_done 11 = .ok (.ifCond .lt 12, 3) := by decide +kernel
theorem dX9_done_14 : decode cX9_done 14 = .ok (.iload_n 2, 1) := by decide +kernel
theorem dX9_done_15 : decode cX9_done 15 = .ok (.ifCond .lt 8, 3) := by decide +kernel
theorem dX9_done_18 : decode cX9_done 18 = .ok (.iload_n 2, 1) := by decide +kernel
theorem dX9_done_19 : decode cX9_done 19 = .ok (.iconst 4, 1) := by decide +kernel
theorem dX9_done_20 : decode cX9_done 20 = .ok (.if_icmp .le 7, 3) := by decide +kernel
theorem dX9_done_23 : decode cX9_done 23 = .ok (.sipush (-20002), 3) := by decide +kernel
theorem dX9_done_26 : decode cX9_done 26 = .ok (.ireturn, 1) := by decide +kernel
theorem dX9_done_27 : decode cX9_done 27 = .ok (.iload_n 1, 1) := by decide +kernel
theorem dX9_done_28 : decode cX9_done 28 = .ok (.aload_n 0, 1) := by decide +kernel
theorem dX9_done_29 : decode cX9_done 29 = .ok (.getfield 45, 3) := by decide +kernel
theorem dX9_done_32 : decode cX9_done 32 = .ok (.getfield 168, 3) := by decide +kernel
theorem dX9_done_35 : decode cX9_done 35 = .ok (.if_icmp .lt 7, 3) := by decide +kernel
theorem dX9_done_38 : decode cX9_done 38 = .ok (.sipush (-20001), 3) := by decide +kernel
theorem dX9_done_41 : decode cX9_done 41 = .ok (.ireturn, 1) := by decide +kernel
theorem dX9_done_42 : decode cX9_done 42 = .ok (.iload_n 2, 1) := by decide +kernel
theorem dX9_done_43 : decode cX9_done 43 = .ok (.tableswitch 96 0 3 #[29, 39, 49, 63], 29) := by decide +kernel
theorem dX9_done_72 : decode cX9_done 72 = .ok (.aload_n 0, 1) := by decide +kernel
theorem dX9_done_73 : decode cX9_done 73 = .ok (.getfield 45, 3) := by decide +kernel
theorem dX9_done_76 : decode cX9_done 76 = .ok (.getfield 183, 3) := by decide +kernel
theorem dX9_done_79 : decode cX9_done 79 = .ok (.iload_n 1, 1) := by decide +kernel
theorem dX9_done_80 : decode cX9_done 80 = .ok (.iaload, 1) := by decide +kernel
theorem dX9_done_81 : decode cX9_done 81 = .ok (.ireturn, 1) := by decide +kernel
theorem dX9_done_82 : decode cX9_done 82 = .ok (.aload_n 0, 1) := by decide +kernel
theorem dX9_done_83 : decode cX9_done 83 = .ok (.getfield 45, 3) := by decide +kernel
theorem dX9_done_86 : decode cX9_done 86 = .ok (.getfield 186, 3) := by decide +kernel
theorem dX9_done_89 : decode cX9_done 89 = .ok (.iload_n 1, 1) := by decide +kernel
theorem dX9_done_90 : decode cX9_done 90 = .ok (.iaload, 1) := by decide +kernel
theorem dX9_done_91 : decode cX9_done 91 = .ok (.ireturn, 1) := by decide +kernel
theorem dX9_done_92 : decode cX9_done 92 = .ok (.aload_n 0, 1) := by decide +kernel
theorem dX9_done_93 : decode cX9_done 93 = .ok (.aload_n 0, 1) := by decide +kernel
theorem dX9_done_94 : decode cX9_done 94 = .ok (.getfield 45, 3) := by decide +kernel
theorem dX9_done_97 : decode cX9_done 97 = .ok (.getfield 189, 3) := by decide +kernel
theorem dX9_done_100 : decode cX9_done 100 = .ok (.iload_n 1, 1) := by decide +kernel
theorem dX9_done_101 : decode cX9_done 101 = .ok (.iaload, 1) := by decide +kernel
theorem dX9_done_102 : decode cX9_done 102 = .ok (.invokevirtual 192, 3) := by decide +kernel
theorem dX9_done_105 : decode cX9_done 105 = .ok (.ireturn, 1) := by decide +kernel
theorem dX9_done_106 : decode cX9_done 106 = .ok (.aload_n 0, 1) := by decide +kernel
theorem dX9_done_107 : decode cX9_done 107 = .ok (.getfield 45, 3) := by decide +kernel
theorem dX9_done_110 : decode cX9_done 110 = .ok (.getfield 186, 3) := by decide +kernel
theorem dX9_done_113 : decode cX9_done 113 = .ok (.iload_n 1, 1) := by decide +kernel
theorem dX9_done_114 : decode cX9_done 114 = .ok (.iaload, 1) := by decide +kernel
theorem dX9_done_115 : decode cX9_done 115 = .ok (.iconst (-1), 1) := by decide +kernel
theorem dX9_done_116 : decode cX9_done 116 = .ok (.if_icmp .ne 7, 3) := by decide +kernel
theorem dX9_done_119 : decode cX9_done 119 = .ok (.iconst (-1), 1) := by decide +kernel
theorem dX9_done_120 : decode cX9_done 120 = .ok (.goto 18, 3) := by decide +kernel
theorem dX9_done_123 : decode cX9_done 123 = .ok (.aload_n 0, 1) := by decide +kernel
theorem dX9_done_124 : decode cX9_done 124 = .ok (.aload_n 0, 1) := by decide +kernel
theorem dX9_done_125 : decode cX9_done 125 = .ok (.getfield 45, 3) := by decide +kernel
theorem dX9_done_128 : decode cX9_done 128 = .ok (.getfield 189, 3) := by decide +kernel
theorem dX9_done_131 : decode cX9_done 131 = .ok (.iload_n 1, 1) := by decide +kernel
theorem dX9_done_132 : decode cX9_done 132 = .ok (.iaload, 1) := by decide +kernel
theorem dX9_done_133 : decode cX9_done 133 = .ok (.iconst 1, 1) := by decide +kernel
theorem dX9_done_134 : decode cX9_done 134 = .ok (.iadd, 1) := by decide +kernel
theorem dX9_done_135 : decode cX9_done 135 = .ok (.invokevirtual 192, 3) := by decide +kernel
theorem dX9_done_138 : decode cX9_done 138 = .ok (.ireturn, 1) := by decide +kernel
theorem dX9_done_139 : decode cX9_done 139 = .ok (.aload_n 0, 1) := by decide +kernel
theorem dX9_done_140 : decode cX9_done 140 = .ok (.getfield 45, 3) := by decide +kernel
theorem dX9_done_143 : decode cX9_done 143 = .ok (.getfield 195, 3) := by decide +kernel
theorem dX9_done_146 : decode cX9_done 146 = .ok (.iload_n 1, 1) := by decide +kernel
theorem dX9_done_147 : decode cX9_done 147 = .ok (.iaload, 1) := by decide +kernel
theorem dX9_done_148 : decode cX9_done 148 = .ok (.ireturn, 1) := by decide +kernel
theorem dX9_time_0 : decode cX9_time 0 = .ok (.aload_n 0, 1) := by decide +kernel
theorem dX9_time_1 : decode cX9_time 1 = .ok (.getfield 42, 3) := by decide +kernel
theorem dX9_time_4 : decode cX9_time 4 = .ok (.getfield 141, 3) := by decide +kernel
theorem dX9_time_7 : decode cX9_time 7 = .ok (.ifCond .le 10, 3) := by decide +kernel
theorem dX9_time_10 : decode cX9_time 10 = .ok (.aload_n 0, 1) := by decide +kernel
theorem dX9_time_11 : decode cX9_time 11 = .ok (.invokevirtual 198, 3) := by decide +kernel
theorem dX9_time_14 : decode cX9_time 14 = .ok (.goto 5, 3) := by decide +kernel
theorem dX9_time_17 : decode cX9_time 17 = .ok (.bipush (-2), 2) := by decide +kernel
theorem dX9_time_19 : decode cX9_time 19 = .ok (.ireturn, 1) := by decide +kernel
theorem dX9_rounds_0 : decode cX9_rounds 0 = .ok (.aload_n 0, 1) := by decide +kernel
theorem dX9_rounds_1 : decode cX9_rounds 1 = .ok (.getfield 42, 3) := by decide +kernel
theorem dX9_rounds_4 : decode cX9_rounds 4 = .ok (.getfield 141, 3) := by decide +kernel
theorem dX9_rounds_7 : decode cX9_rounds 7 = .ok (.ifCond .le 28, 3) := by decide +kernel
theorem dX9_rounds_10 : decode cX9_rounds 10 = .ok (.aload_n 0, 1) := by decide +kernel
theorem dX9_rounds_11 : decode cX9_rounds 11 = .ok (.getfield 42, 3) := by decide +kernel
theorem dX9_rounds_14 : decode cX9_rounds 14 = .ok (.getfield 126, 3) := by decide +kernel
theorem dX9_rounds_17 : decode cX9_rounds 17 = .ok (.ifCond .le 18, 3) := by decide +kernel
theorem dX9_rounds_20 : decode cX9_rounds 20 = .ok (.aload_n 0, 1) := by decide +kernel
theorem dX9_rounds_21 : decode cX9_rounds 21 = .ok (.invokevirtual 198, 3) := by decide +kernel
theorem dX9_rounds_24 : decode cX9_rounds 24 = .ok (.aload_n 0, 1) := by decide +kernel
theorem dX9_rounds_25 : decode cX9_rounds 25 = .ok (.getfield 42, 3) := by decide +kernel
theorem dX9_rounds_28 : decode cX9_rounds 28 = .ok (.getfield 126, 3) := by decide +kernel
theorem dX9_rounds_31 : decode cX9_rounds 31 = .ok (.idiv, 1) := by decide +kernel
theorem dX9_rounds_32 : decode cX9_rounds 32 = .ok (.goto 5, 3) := by decide +kernel
theorem dX9_rounds_35 : decode cX9_rounds 35 = .ok (.bipush (-2), 2) := by decide +kernel
theorem dX9_rounds_37 : decode cX9_rounds 37 = .ok (.ireturn, 1) := by decide +kernel
theorem dX9_lost_0 : decode cX9_lost 0 = .ok (.aload_n 0, 1) := by decide +kernel
theorem dX9_lost_1 : decode cX9_lost 1 = .ok (.getfield 42, 3) := by decide +kernel
theorem dX9_lost_4 : decode cX9_lost 4 = .ok (.getfield 141, 3) := by decide +kernel
theorem dX9_lost_7 : decode cX9_lost 7 = .ok (.ifCond .le 10, 3) := by decide +kernel
theorem dX9_lost_10 : decode cX9_lost 10 = .ok (.aload_n 0, 1) := by decide +kernel
theorem dX9_lost_11 : decode cX9_lost 11 = .ok (.invokevirtual 201, 3) := by decide +kernel
theorem dX9_lost_14 : decode cX9_lost 14 = .ok (.goto 5, 3) := by decide +kernel
theorem dX9_lost_17 : decode cX9_lost 17 = .ok (.bipush (-2), 2) := by decide +kernel
theorem dX9_lost_19 : decode cX9_lost 19 = .ok (.ireturn, 1) := by decide +kernel
theorem dX9_lostFor_0 : decode cX9_lostFor 0 = .ok (.aload_n 0, 1) := by decide +kernel
theorem dX9_lostFor_1 : decode cX9_lostFor 1 = .ok (.getfield 42, 3) := by decide +kernel
theorem dX9_lostFor_4 : decode cX9_lostFor 4 = .ok (.getfield 141, 3) := by decide +kernel
theorem dX9_lostFor_7 : decode cX9_lostFor 7 = .ok (.ifCond .eq 14, 3) := by decide +kernel
theorem dX9_lostFor_10 : decode cX9_lostFor 10 = .ok (.aload_n 0, 1) := by decide +kernel
theorem dX9_lostFor_11 : decode cX9_lostFor 11 = .ok (.getfield 42, 3) := by decide +kernel
theorem dX9_lostFor_14 : decode cX9_lostFor 14 = .ok (.iload_n 1, 1) := by decide +kernel
theorem dX9_lostFor_15 : decode cX9_lostFor 15 = .ok (.invokevirtual 148, 3) := by decide +kernel
theorem dX9_lostFor_18 : decode cX9_lostFor 18 = .ok (.ifCond .ne 6, 3) := by decide +kernel
theorem dX9_lostFor_21 : decode cX9_lostFor 21 = .ok (.bipush (-2), 2) := by decide +kernel
theorem dX9_lostFor_23 : decode cX9_lostFor 23 = .ok (.ireturn, 1) := by decide +kernel
theorem dX9_lostFor_24 : decode cX9_lostFor 24 = .ok (.aload_n 0, 1) := by decide +kernel
theorem dX9_lostFor_25 : decode cX9_lostFor 25 = .ok (.invokevirtual 198, 3) := by decide +kernel
theorem dX9_lostFor_28 : decode cX9_lostFor 28 = .ok (.pop, 1) := by decide +kernel
theorem dX9_lostFor_29 : decode cX9_lostFor 29 = .ok (.aload_n 0, 1) := by decide +kernel
theorem dX9_lostFor_30 : decode cX9_lostFor 30 = .ok (.getfield 49, 3) := by decide +kernel
theorem dX9_lostFor_33 : decode cX9_lostFor 33 = .ok (.iload_n 1, 1) := by decide +kernel
theorem dX9_lostFor_34 : decode cX9_lostFor 34 = .ok (.invokevirtual 204, 3) := by decide +kernel
theorem dX9_lostFor_37 : decode cX9_lostFor 37 = .ok (.ireturn, 1) := by decide +kernel
theorem dX9_worst_0 : decode cX9_worst 0 = .ok (.aload_n 0, 1) := by decide +kernel
theorem dX9_worst_1 : decode cX9_worst 1 = .ok (.getfield 42, 3) := by decide +kernel
theorem dX9_worst_4 : decode cX9_worst 4 = .ok (.getfield 141, 3) := by decide +kernel
theorem dX9_worst_7 : decode cX9_worst 7 = .ok (.ifCond .ne 6, 3) := by decide +kernel
theorem dX9_worst_10 : decode cX9_worst 10 = .ok (.bipush (-2), 2) := by decide +kernel
theorem dX9_worst_12 : decode cX9_worst 12 = .ok (.ireturn, 1) := by decide +kernel
theorem dX9_worst_13 : decode cX9_worst 13 = .ok (.aload_n 0, 1) := by decide +kernel
theorem dX9_worst_14 : decode cX9_worst 14 = .ok (.invokevirtual 198, 3) := by decide +kernel
theorem dX9_worst_17 : decode cX9_worst 17 = .ok (.pop, 1) := by decide +kernel
theorem dX9_worst_18 : decode cX9_worst 18 = .ok (.iconst (-1), 1) := by decide +kernel
theorem dX9_worst_19 : decode cX9_worst 19 = .ok (.istore_n 1, 1) := by decide +kernel
theorem dX9_worst_20 : decode cX9_worst 20 = .ok (.iconst 0, 1) := by decide +kernel
theorem dX9_worst_21 : decode cX9_worst 21 = .ok (.istore_n 2, 1) := by decide +kernel
theorem dX9_worst_22 : decode cX9_worst 22 = .ok (.iconst 0, 1) := by decide +kernel
theorem dX9_worst_23 : decode cX9_worst 23 = .ok (.istore_n 3, 1) := by decide +kernel
theorem dX9_worst_24 : decode cX9_worst 24 = .ok (.iload_n 3, 1) := by decide +kernel
theorem dX9_worst_25 : decode cX9_worst 25 = .ok (.aload_n 0, 1) := by decide +kernel
theorem dX9_worst_26 : decode cX9_worst 26 = .ok (.getfield 42, 3) := by decide +kernel
theorem dX9_worst_29 : decode cX9_worst 29 = .ok (.getfield 207, 3) := by decide +kernel
theorem dX9_worst_32 : decode cX9_worst 32 = .ok (.if_icmp .ge 30, 3) := by decide +kernel
theorem dX9_worst_35 : decode cX9_worst 35 = .ok (.aload_n 0, 1) := by decide +kernel
theorem dX9_worst_36 : decode cX9_worst 36 = .ok (.getfield 49, 3) := by decide +kernel
theorem dX9_worst_39 : decode cX9_worst 39 = .ok (.iload_n 3, 1) := by decide +kernel
theorem dX9_worst_40 : decode cX9_worst 40 = .ok (.invokevirtual 204, 3) := by decide +kernel
theorem dX9_worst_43 : decode cX9_worst 43 = .ok (.istore 4, 2) := by decide +kernel
theorem dX9_worst_45 : decode cX9_worst 45 = .ok (.iload 4, 2) := by decide +kernel
theorem dX9_worst_47 : decode cX9_worst 47 = .ok (.iload_n 2, 1) := by decide +kernel
theorem dX9_worst_48 : decode cX9_worst 48 = .ok (.if_icmp .le 8, 3) := by decide +kernel
theorem dX9_worst_51 : decode cX9_worst 51 = .ok (.iload_n 3, 1) := by decide +kernel
theorem dX9_worst_52 : decode cX9_worst 52 = .ok (.istore_n 1, 1) := by decide +kernel
theorem dX9_worst_53 : decode cX9_worst 53 = .ok (.iload 4, 2) := by decide +kernel
theorem dX9_worst_55 : decode cX9_worst 55 = .ok (.istore_n 2, 1) := by decide +kernel
theorem dX9_worst_56 : decode cX9_worst 56 = .ok (.iinc 3 1, 3) := by decide +kernel
theorem dX9_worst_59 : decode cX9_worst 59 = .ok (.goto (-35), 3) := by decide +kernel
theorem dX9_worst_62 : decode cX9_worst 62 = .ok (.iload_n 1, 1) := by decide +kernel
theorem dX9_worst_63 : decode cX9_worst 63 = .ok (.ireturn, 1) := by decide +kernel
theorem dX9_met_0 : decode cX9_met 0 = .ok (.aload_n 0, 1) := by decide +kernel
theorem dX9_met_1 : decode cX9_met 1 = .ok (.getfield 42, 3) := by decide +kernel
theorem dX9_met_4 : decode cX9_met 4 = .ok (.getfield 141, 3) := by decide +kernel
theorem dX9_met_7 : decode cX9_met 7 = .ok (.ifCond .le 25, 3) := by decide +kernel
theorem dX9_met_10 : decode cX9_met 10 = .ok (.aload_n 0, 1) := by decide +kernel
theorem dX9_met_11 : decode cX9_met 11 = .ok (.getfield 42, 3) := by decide +kernel
theorem dX9_met_14 : decode cX9_met 14 = .ok (.iload_n 1, 1) := by decide +kernel
theorem dX9_met_15 : decode cX9_met 15 = .ok (.invokevirtual 148, 3) := by decide +kernel
theorem dX9_met_18 : decode cX9_met 18 = .ok (.ifCond .eq 14, 3) := by decide +kernel
theorem dX9_met_21 : decode cX9_met 21 = .ok (.aload_n 0, 1) := by decide +kernel
theorem dX9_met_22 : decode cX9_met 22 = .ok (.getfield 45, 3) := by decide +kernel
theorem dX9_met_25 : decode cX9_met 25 = .ok (.iload_n 1, 1) := by decide +kernel
theorem dX9_met_26 : decode cX9_met 26 = .ok (.invokevirtual 210, 3) := by decide +kernel
theorem dX9_met_29 : decode cX9_met 29 = .ok (.goto 5, 3) := by decide +kernel
theorem dX9_met_32 : decode cX9_met 32 = .ok (.bipush (-2), 2) := by decide +kernel
theorem dX9_met_34 : decode cX9_met 34 = .ok (.ireturn, 1) := by decide +kernel
theorem dX9_bound_0 : decode cX9_bound 0 = .ok (.aload_n 0, 1) := by decide +kernel
theorem dX9_bound_1 : decode cX9_bound 1 = .ok (.getfield 42, 3) := by decide +kernel
theorem dX9_bound_4 : decode cX9_bound 4 = .ok (.getfield 141, 3) := by decide +kernel
theorem dX9_bound_7 : decode cX9_bound 7 = .ok (.ifCond .ne 6, 3) := by decide +kernel
theorem dX9_bound_10 : decode cX9_bound 10 = .ok (.bipush (-2), 2) := by decide +kernel
theorem dX9_bound_12 : decode cX9_bound 12 = .ok (.ireturn, 1) := by decide +kernel
theorem dX9_bound_13 : decode cX9_bound 13 = .ok (.aload_n 0, 1) := by decide +kernel
theorem dX9_bound_14 : decode cX9_bound 14 = .ok (.invokevirtual 198, 3) := by decide +kernel
theorem dX9_bound_17 : decode cX9_bound 17 = .ok (.istore_n 1, 1) := by decide +kernel
theorem dX9_bound_18 : decode cX9_bound 18 = .ok (.iload_n 1, 1) := by decide +kernel
theorem dX9_bound_19 : decode cX9_bound 19 = .ok (.aload_n 0, 1) := by decide +kernel
theorem dX9_bound_20 : decode cX9_bound 20 = .ok (.getfield 49, 3) := by decide +kernel
theorem dX9_bound_23 : decode cX9_bound 23 = .ok (.invokevirtual 213, 3) := by decide +kernel
theorem dX9_bound_26 : decode cX9_bound 26 = .ok (.isub, 1) := by decide +kernel
theorem dX9_bound_27 : decode cX9_bound 27 = .ok (.ireturn, 1) := by decide +kernel
theorem dX9_waiting_0 : decode cX9_waiting 0 = .ok (.aload_n 0, 1) := by decide +kernel
theorem dX9_waiting_1 : decode cX9_waiting 1 = .ok (.getfield 42, 3) := by decide +kernel
theorem dX9_waiting_4 : decode cX9_waiting 4 = .ok (.getfield 141, 3) := by decide +kernel
theorem dX9_waiting_7 : decode cX9_waiting 7 = .ok (.ifCond .eq 13, 3) := by decide +kernel
theorem dX9_waiting_10 : decode cX9_waiting 10 = .ok (.iload_n 1, 1) := by decide +kernel
theorem dX9_waiting_11 : decode cX9_waiting 11 = .ok (.ifCond .lt 9, 3) := by decide +kernel
theorem dX9_waiting_14 : decode cX9_waiting 14 = .ok (.iload_n 1, 1) := by decide +kernel
theorem dX9_waiting_15 : decode cX9_waiting 15 = .ok (.bipush 9, 2) := by decide +kernel
theorem dX9_waiting_17 : decode cX9_waiting 17 = .ok (.if_icmp .le 6, 3) := by decide +kernel
theorem dX9_waiting_20 : decode cX9_waiting 20 = .ok (.bipush (-2), 2) := by decide +kernel
theorem dX9_waiting_22 : decode cX9_waiting 22 = .ok (.ireturn, 1) := by decide +kernel
theorem dX9_waiting_23 : decode cX9_waiting 23 = .ok (.aload_n 0, 1) := by decide +kernel
theorem dX9_waiting_24 : decode cX9_waiting 24 = .ok (.getfield 49, 3) := by decide +kernel
theorem dX9_waiting_27 : decode cX9_waiting 27 = .ok (.aload_n 0, 1) := by decide +kernel
theorem dX9_waiting_28 : decode cX9_waiting 28 = .ok (.getfield 78, 3) := by decide +kernel
theorem dX9_waiting_31 : decode cX9_waiting 31 = .ok (.iload_n 1, 1) := by decide +kernel
theorem dX9_waiting_32 : decode cX9_waiting 32 = .ok (.aload_n 0, 1) := by decide +kernel
theorem dX9_waiting_33 : decode cX9_waiting 33 = .ok (.getfield 42, 3) := by decide +kernel
theorem dX9_waiting_36 : decode cX9_waiting 36 = .ok (.getfield 132, 3) := by decide +kernel
theorem dX9_waiting_39 : decode cX9_waiting 39 = .ok (.invokevirtual 216, 3) := by decide +kernel
theorem dX9_waiting_42 : decode cX9_waiting 42 = .ok (.ireturn, 1) := by decide +kernel
theorem dX9_quicker_0 : decode cX9_quicker 0 = .ok (.aload_n 0, 1) := by decide +kernel
theorem dX9_quicker_1 : decode cX9_quicker 1 = .ok (.getfield 42, 3) := by decide +kernel
theorem dX9_quicker_4 : decode cX9_quicker 4 = .ok (.getfield 141, 3) := by decide +kernel
theorem dX9_quicker_7 : decode cX9_quicker 7 = .ok (.ifCond .eq 17, 3) := by decide +kernel
theorem dX9_quicker_10 : decode cX9_quicker 10 = .ok (.iload_n 1, 1) := by decide +kernel
theorem dX9_quicker_11 : decode cX9_quicker 11 = .ok (.aload_n 0, 1) := by decide +kernel
theorem dX9_quicker_12 : decode cX9_quicker 12 = .ok (.getfield 42, 3) := by decide +kernel
theorem dX9_quicker_15 : decode cX9_quicker 15 = .ok (.getfield 126, 3) := by decide +kernel
theorem dX9_quicker_18 : decode cX9_quicker 18 = .ok (.invokestatic 220, 3) := by decide +kernel
theorem dX9_quicker_21 : decode cX9_quicker 21 = .ok (.ifCond .ne 6, 3) := by decide +kernel
theorem dX9_quicker_24 : decode cX9_quicker 24 = .ok (.bipush (-2), 2) := by decide +kernel
theorem dX9_quicker_26 : decode cX9_quicker 26 = .ok (.ireturn, 1) := by decide +kernel
theorem dX9_quicker_27 : decode cX9_quicker 27 = .ok (.aload_n 0, 1) := by decide +kernel
theorem dX9_quicker_28 : decode cX9_quicker 28 = .ok (.getfield 49, 3) := by decide +kernel
theorem dX9_quicker_31 : decode cX9_quicker 31 = .ok (.aload_n 0, 1) := by decide +kernel
theorem dX9_quicker_32 : decode cX9_quicker 32 = .ok (.getfield 78, 3) := by decide +kernel
theorem dX9_quicker_35 : decode cX9_quicker 35 = .ok (.aload_n 0, 1) := by decide +kernel
theorem dX9_quicker_36 : decode cX9_quicker 36 = .ok (.getfield 42, 3) := by decide +kernel
theorem dX9_quicker_39 : decode cX9_quicker 39 = .ok (.getfield 129, 3) := by decide +kernel
theorem dX9_quicker_42 : decode cX9_quicker 42 = .ok (.iload_n 1, 1) := by decide +kernel
theorem dX9_quicker_43 : decode cX9_quicker 43 = .ok (.invokevirtual 216, 3) := by decide +kernel
theorem dX9_quicker_46 : decode cX9_quicker 46 = .ok (.ireturn, 1) := by decide +kernel
theorem dX9_moved_0 : decode cX9_moved 0 = .ok (.aload_n 0, 1) := by decide +kernel
theorem dX9_moved_1 : decode cX9_moved 1 = .ok (.iload_n 1, 1) := by decide +kernel
theorem dX9_moved_2 : decode cX9_moved 2 = .ok (.iload_n 2, 1) := by decide +kernel
theorem dX9_moved_3 : decode cX9_moved 3 = .ok (.invokevirtual 224, 3) := by decide +kernel
theorem dX9_moved_6 : decode cX9_moved 6 = .ok (.istore_n 3, 1) := by decide +kernel
theorem dX9_moved_7 : decode cX9_moved 7 = .ok (.iload_n 3, 1) := by decide +kernel
theorem dX9_moved_8 : decode cX9_moved 8 = .ok (.ifCond .eq 7, 3) := by decide +kernel
theorem dX9_moved_11 : decode cX9_moved 11 = .ok (.iload_n 3, 1) := by decide +kernel
theorem dX9_moved_12 : decode cX9_moved 12 = .ok (.goto 9, 3) := by decide +kernel
theorem dX9_moved_15 : decode cX9_moved 15 = .ok (.aload_n 0, 1) := by decide +kernel
theorem dX9_moved_16 : decode cX9_moved 16 = .ok (.iload_n 1, 1) := by decide +kernel
theorem dX9_moved_17 : decode cX9_moved 17 = .ok (.iload_n 2, 1) := by decide +kernel
theorem dX9_moved_18 : decode cX9_moved 18 = .ok (.invokevirtual 228, 3) := by decide +kernel
theorem dX9_moved_21 : decode cX9_moved 21 = .ok (.ireturn, 1) := by decide +kernel
theorem dX9_swapped_0 : decode cX9_swapped 0 = .ok (.aload_n 0, 1) := by decide +kernel
theorem dX9_swapped_1 : decode cX9_swapped 1 = .ok (.iload_n 1, 1) := by decide +kernel
theorem dX9_swapped_2 : decode cX9_swapped 2 = .ok (.iload_n 2, 1) := by decide +kernel
theorem dX9_swapped_3 : decode cX9_swapped 3 = .ok (.invokevirtual 231, 3) := by decide +kernel
theorem dX9_swapped_6 : decode cX9_swapped 6 = .ok (.istore_n 3, 1) := by decide +kernel
theorem dX9_swapped_7 : decode cX9_swapped 7 = .ok (.iload_n 3, 1) := by decide +kernel
theorem dX9_swapped_8 : decode cX9_swapped 8 = .ok (.ifCond .eq 7, 3) := by decide +kernel
theorem dX9_swapped_11 : decode cX9_swapped 11 = .ok (.iload_n 3, 1) := by decide +kernel
theorem dX9_swapped_12 : decode cX9_swapped 12 = .ok (.goto 9, 3) := by decide +kernel
theorem dX9_swapped_15 : decode cX9_swapped 15 = .ok (.aload_n 0, 1) := by decide +kernel
theorem dX9_swapped_16 : decode cX9_swapped 16 = .ok (.iload_n 1, 1) := by decide +kernel
theorem dX9_swapped_17 : decode cX9_swapped 17 = .ok (.iload_n 2, 1) := by decide +kernel
theorem dX9_swapped_18 : decode cX9_swapped 18 = .ok (.invokevirtual 234, 3) := by decide +kernel
theorem dX9_swapped_21 : decode cX9_swapped 21 = .ok (.ireturn, 1) := by decide +kernel
theorem dX9_best_0 : decode cX9_best 0 = .ok (.aload_n 0, 1) := by decide +kernel
theorem dX9_best_1 : decode cX9_best 1 = .ok (.getfield 42, 3) := by decide +kernel
theorem dX9_best_4 : decode cX9_best 4 = .ok (.getfield 141, 3) := by decide +kernel
theorem dX9_best_7 : decode cX9_best 7 = .ok (.ifCond .ne 6, 3) := by decide +kernel
theorem dX9_best_10 : decode cX9_best 10 = .ok (.bipush (-2), 2) := by decide +kernel
theorem dX9_best_12 : decode cX9_best 12 = .ok (.ireturn, 1) := by decide +kernel
theorem dX9_best_13 : decode cX9_best 13 = .ok (.aload_n 0, 1) := by decide +kernel
theorem dX9_best_14 : decode cX9_best 14 = .ok (.invokevirtual 198, 3) := by decide +kernel
theorem dX9_best_17 : decode cX9_best 17 = .ok (.istore_n 1, 1) := by decide +kernel
theorem dX9_best_18 : decode cX9_best 18 = .ok (.iconst (-1), 1) := by decide +kernel
theorem dX9_best_19 : decode cX9_best 19 = .ok (.istore_n 2, 1) := by decide +kernel
theorem dX9_best_20 : decode cX9_best 20 = .ok (.iconst 0, 1) := by decide +kernel
theorem dX9_best_21 : decode cX9_best 21 = .ok (.istore_n 3, 1) := by decide +kernel
theorem dX9_best_22 : decode cX9_best 22 = .ok (.iload_n 3, 1) := by decide +kernel
theorem dX9_best_23 : decode cX9_best 23 = .ok (.aload_n 0, 1) := by decide +kernel
theorem dX9_best_24 : decode cX9_best 24 = .ok (.getfield 42, 3) := by decide +kernel
theorem dX9_best_27 : decode cX9_best 27 = .ok (.getfield 207, 3) := by decide +kernel
theorem dX9_best_30 : decode cX9_best 30 = .ok (.if_icmp .ge 69, 3) := by decide +kernel
theorem dX9_best_33 : decode cX9_best 33 = .ok (.iconst 0, 1) := by decide +kernel
theorem dX9_best_34 : decode cX9_best 34 = .ok (.istore 4, 2) := by decide +kernel
theorem dX9_best_36 : decode cX9_best 36 = .ok (.iload 4, 2) := by decide +kernel
theorem dX9_best_38 : decode cX9_best 38 = .ok (.aload_n 0, 1) := by decide +kernel
theorem dX9_best_39 : decode cX9_best 39 = .ok (.getfield 42, 3) := by decide +kernel
theorem dX9_best_42 : decode cX9_best 42 = .ok (.invokevirtual 237, 3) := by decide +kernel
theorem dX9_best_45 : decode cX9_best 45 = .ok (.if_icmp .ge 48, 3) := by decide +kernel
theorem dX9_best_48 : decode cX9_best 48 = .ok (.aload_n 0, 1) := by decide +kernel
theorem dX9_best_49 : decode cX9_best 49 = .ok (.iload_n 3, 1) := by decide +kernel
theorem dX9_best_50 : decode cX9_best 50 = .ok (.iload 4, 2) := by decide +kernel
theorem dX9_best_52 : decode cX9_best 52 = .ok (.invokevirtual 240, 3) := by decide +kernel
theorem dX9_best_55 : decode cX9_best 55 = .ok (.ifCond .ne 6, 3) := by decide +kernel
theorem dX9_best_58 : decode cX9_best 58 = .ok (.goto 29, 3) := by decide +kernel
theorem dX9_best_61 : decode cX9_best 61 = .ok (.aload_n 0, 1) := by decide +kernel
theorem dX9_best_62 : decode cX9_best 62 = .ok (.iload_n 3, 1) := by decide +kernel
theorem dX9_best_63 : decode cX9_best 63 = .ok (.iload 4, 2) := by decide +kernel
theorem dX9_best_65 : decode cX9_best 65 = .ok (.invokevirtual 228, 3) := by decide +kernel
theorem dX9_best_68 : decode cX9_best 68 = .ok (.istore 5, 2) := by decide +kernel
theorem dX9_best_70 : decode cX9_best 70 = .ok (.iload 5, 2) := by decide +kernel
theorem dX9_best_72 : decode cX9_best 72 = .ok (.iload_n 1, 1) := by decide +kernel
theorem dX9_best_73 : decode cX9_best 73 = .ok (.if_icmp .ge 14, 3) := by decide +kernel
theorem dX9_best_76 : decode cX9_best 76 = .ok (.iload 5, 2) := by decide +kernel
theorem dX9_best_78 : decode cX9_best 78 = .ok (.istore_n 1, 1) := by decide +kernel
theorem dX9_best_79 : decode cX9_best 79 = .ok (.bipush 100, 2) := by decide +kernel
theorem dX9_best_81 : decode cX9_best 81 = .ok (.iload_n 3, 1) := by decide +kernel
theorem dX9_best_82 : decode cX9_best 82 = .ok (.imul, 1) := by decide +kernel
theorem dX9_best_83 : decode cX9_best 83 = .ok (.iload 4, 2) := by decide +kernel
theorem dX9_best_85 : decode cX9_best 85 = .ok (.iadd, 1) := by decide +kernel
theorem dX9_best_86 : decode cX9_best 86 = .ok (.istore_n 2, 1) := by decide +kernel
theorem dX9_best_87 : decode cX9_best 87 = .ok (.iinc 4 1, 3) := by decide +kernel
theorem dX9_best_90 : decode cX9_best 90 = .ok (.goto (-54), 3) := by decide +kernel
theorem dX9_best_93 : decode cX9_best 93 = .ok (.iinc 3 1, 3) := by decide +kernel
theorem dX9_best_96 : decode cX9_best 96 = .ok (.goto (-74), 3) := by decide +kernel
theorem dX9_best_99 : decode cX9_best 99 = .ok (.iload_n 2, 1) := by decide +kernel
theorem dX9_best_100 : decode cX9_best 100 = .ok (.ireturn, 1) := by decide +kernel
theorem dX9_pair_0 : decode cX9_pair 0 = .ok (.aload_n 0, 1) := by decide +kernel
theorem dX9_pair_1 : decode cX9_pair 1 = .ok (.getfield 42, 3) := by decide +kernel
theorem dX9_pair_4 : decode cX9_pair 4 = .ok (.getfield 141, 3) := by decide +kernel
theorem dX9_pair_7 : decode cX9_pair 7 = .ok (.ifCond .ne 6, 3) := by decide +kernel
theorem dX9_pair_10 : decode cX9_pair 10 = .ok (.bipush (-2), 2) := by decide +kernel
theorem dX9_pair_12 : decode cX9_pair 12 = .ok (.ireturn, 1) := by decide +kernel
theorem dX9_pair_13 : decode cX9_pair 13 = .ok (.aload_n 0, 1) := by decide +kernel
theorem dX9_pair_14 : decode cX9_pair 14 = .ok (.invokevirtual 198, 3) := by decide +kernel
theorem dX9_pair_17 : decode cX9_pair 17 = .ok (.istore_n 1, 1) := by decide +kernel
theorem dX9_pair_18 : decode cX9_pair 18 = .ok (.iconst (-1), 1) := by decide +kernel
theorem dX9_pair_19 : decode cX9_pair 19 = .ok (.istore_n 2, 1) := by decide +kernel
theorem dX9_pair_20 : decode cX9_pair 20 = .ok (.iconst 0, 1) := by decide +kernel
theorem dX9_pair_21 : decode cX9_pair 21 = .ok (.istore_n 3, 1) := by decide +kernel
theorem dX9_pair_22 : decode cX9_pair 22 = .ok (.iload_n 3, 1) := by decide +kernel
theorem dX9_pair_23 : decode cX9_pair 23 = .ok (.aload_n 0, 1) := by decide +kernel
theorem dX9_pair_24 : decode cX9_pair 24 = .ok (.getfield 42, 3) := by decide +kernel
theorem dX9_pair_27 : decode cX9_pair 27 = .ok (.getfield 207, 3) := by decide +kernel
theorem dX9_pair_30 : decode cX9_pair 30 = .ok (.if_icmp .ge 84, 3) := by decide +kernel
theorem dX9_pair_33 : decode cX9_pair 33 = .ok (.iload_n 3, 1) := by decide +kernel
theorem dX9_pair_34 : decode cX9_pair 34 = .ok (.iconst 1, 1) := by decide +kernel
theorem dX9_pair_35 : decode cX9_pair 35 = .ok (.iadd, 1) := by decide +kernel
theorem dX9_pair_36 : decode cX9_pair 36 = .ok (.istore 4, 2) := by decide +kernel
theorem dX9_pair_38 : decode cX9_pair 38 = .ok (.iload 4, 2) := by decide +kernel
theorem dX9_pair_40 : decode cX9_pair 40 = .ok (.aload_n 0, 1) := by decide +kernel
theorem dX9_pair_41 : decode cX9_pair 41 = .ok (.getfield 42, 3) := by decide +kernel
theorem dX9_pair_44 : decode cX9_pair 44 = .ok (.getfield 207, 3) := by decide +kernel
theorem dX9_pair_47 : decode cX9_pair 47 = .ok (.if_icmp .ge 61, 3) := by decide +kernel
theorem dX9_pair_50 : decode cX9_pair 50 = .ok (.aload_n 0, 1) := by decide +kernel
theorem dX9_pair_51 : decode cX9_pair 51 = .ok (.getfield 42, 3) := by decide +kernel
theorem dX9_pair_54 : decode cX9_pair 54 = .ok (.iload_n 3, 1) := by decide +kernel
theorem dX9_pair_55 : decode cX9_pair 55 = .ok (.invokevirtual 155, 3) := by decide +kernel
theorem dX9_pair_58 : decode cX9_pair 58 = .ok (.ifCond .ne 44, 3) := by decide +kernel
theorem dX9_pair_61 : decode cX9_pair 61 = .ok (.aload_n 0, 1) := by decide +kernel
theorem dX9_pair_62 : decode cX9_pair 62 = .ok (.getfield 42, 3) := by decide +kernel
theorem dX9_pair_65 : decode cX9_pair 65 = .ok (.iload 4, 2) := by decide +kernel
theorem dX9_pair_67 : decode cX9_pair 67 = .ok (.invokevirtual 155, 3) := by decide +kernel
theorem dX9_pair_70 : decode cX9_pair 70 = .ok (.ifCond .eq 6, 3) := by decide +kernel
theorem dX9_pair_73 : decode cX9_pair 73 = .ok (.goto 29, 3) := by decide +kernel
theorem dX9_pair_76 : decode cX9_pair 76 = .ok (.aload_n 0, 1) := by decide +kernel
theorem dX9_pair_77 : decode cX9_pair 77 = .ok (.iload_n 3, 1) := by decide +kernel
theorem dX9_pair_78 : decode cX9_pair 78 = .ok (.iload 4, 2) := by decide +kernel
theorem dX9_pair_80 : decode cX9_pair 80 = .ok (.invokevirtual 234, 3) := by decide +kernel
theorem dX9_pair_83 : decode cX9_pair 83 = .ok (.istore 5, 2) := by decide +kernel
theorem dX9_pair_85 : decode cX9_pair 85 = .ok (.iload 5, 2) := by decide +kernel
theorem dX9_pair_87 : decode cX9_pair 87 = .ok (.iload_n 1, 1) := by decide +kernel
theorem dX9_pair_88 : decode cX9_pair 88 = .ok (.if_icmp .ge 14, 3) := by decide +kernel
theorem dX9_pair_91 : decode cX9_pair 91 = .ok (.iload 5, 2) := by decide +kernel
theorem dX9_pair_93 : decode cX9_pair 93 = .ok (.istore_n 1, 1) := by decide +kernel
theorem dX9_pair_94 : decode cX9_pair 94 = .ok (.bipush 100, 2) := by decide +kernel
theorem dX9_pair_96 : decode cX9_pair 96 = .ok (.iload_n 3, 1) := by decide +kernel
theorem dX9_pair_97 : decode cX9_pair 97 = .ok (.imul, 1) := by decide +kernel
theorem dX9_pair_98 : decode cX9_pair 98 = .ok (.iload 4, 2) := by decide +kernel
theorem dX9_pair_100 : decode cX9_pair 100 = .ok (.iadd, 1) := by decide +kernel
theorem dX9_pair_101 : decode cX9_pair 101 = .ok (.istore_n 2, 1) := by decide +kernel
theorem dX9_pair_102 : decode cX9_pair 102 = .ok (.iinc 4 1, 3) := by decide +kernel
theorem dX9_pair_105 : decode cX9_pair 105 = .ok (.goto (-67), 3) := by decide +kernel
theorem dX9_pair_108 : decode cX9_pair 108 = .ok (.iinc 3 1, 3) := by decide +kernel
theorem dX9_pair_111 : decode cX9_pair 111 = .ok (.goto (-89), 3) := by decide +kernel
theorem dX9_pair_114 : decode cX9_pair 114 = .ok (.iload_n 2, 1) := by decide +kernel
theorem dX9_pair_115 : decode cX9_pair 115 = .ok (.ireturn, 1) := by decide +kernel
theorem dX9_idle_0 : decode cX9_idle 0 = .ok (.aload_n 0, 1) := by decide +kernel
theorem dX9_idle_1 : decode cX9_idle 1 = .ok (.getfield 42, 3) := by decide +kernel
theorem dX9_idle_4 : decode cX9_idle 4 = .ok (.getfield 141, 3) := by decide +kernel
theorem dX9_idle_7 : decode cX9_idle 7 = .ok (.ifCond .ne 6, 3) := by decide +kernel
theorem dX9_idle_10 : decode cX9_idle 10 = .ok (.bipush (-2), 2) := by decide +kernel
theorem dX9_idle_12 : decode cX9_idle 12 = .ok (.ireturn, 1) := by decide +kernel
theorem dX9_idle_13 : decode cX9_idle 13 = .ok (.aload_n 0, 1) := by decide +kernel
theorem dX9_idle_14 : decode cX9_idle 14 = .ok (.invokevirtual 198, 3) := by decide +kernel
theorem dX9_idle_17 : decode cX9_idle 17 = .ok (.istore_n 1, 1) := by decide +kernel
theorem dX9_idle_18 : decode cX9_idle 18 = .ok (.iconst 0, 1) := by decide +kernel
theorem dX9_idle_19 : decode cX9_idle 19 = .ok (.istore_n 2, 1) := by decide +kernel
theorem dX9_idle_20 : decode cX9_idle 20 = .ok (.iconst 0, 1) := by decide +kernel
theorem dX9_idle_21 : decode cX9_idle 21 = .ok (.istore_n 3, 1) := by decide +kernel
theorem dX9_idle_22 : decode cX9_idle 22 = .ok (.iload_n 3, 1) := by decide +kernel
theorem dX9_idle_23 : decode cX9_idle 23 = .ok (.aload_n 0, 1) := by decide +kernel
theorem dX9_idle_24 : decode cX9_idle 24 = .ok (.getfield 42, 3) := by decide +kernel
theorem dX9_idle_27 : decode cX9_idle 27 = .ok (.getfield 207, 3) := by decide +kernel
theorem dX9_idle_30 : decode cX9_idle 30 = .ok (.if_icmp .ge 54, 3) := by decide +kernel
theorem dX9_idle_33 : decode cX9_idle 33 = .ok (.iconst 0, 1) := by decide +kernel
theorem dX9_idle_34 : decode cX9_idle 34 = .ok (.istore 4, 2) := by decide +kernel
theorem dX9_idle_36 : decode cX9_idle 36 = .ok (.iload 4, 2) := by decide +kernel
theorem dX9_idle_38 : decode cX9_idle 38 = .ok (.aload_n 0, 1) := by decide +kernel
theorem dX9_idle_39 : decode cX9_idle 39 = .ok (.getfield 42, 3) := by decide +kernel
theorem dX9_idle_42 : decode cX9_idle 42 = .ok (.invokevirtual 237, 3) := by decide +kernel
theorem dX9_idle_45 : decode cX9_idle 45 = .ok (.if_icmp .ge 33, 3) := by decide +kernel
theorem dX9_idle_48 : decode cX9_idle 48 = .ok (.aload_n 0, 1) := by decide +kernel
theorem dX9_idle_49 : decode cX9_idle 49 = .ok (.iload_n 3, 1) := by decide +kernel
theorem dX9_idle_50 : decode cX9_idle 50 = .ok (.iload 4, 2) := by decide +kernel
theorem dX9_idle_52 : decode cX9_idle 52 = .ok (.invokevirtual 240, 3) := by decide +kernel
theorem dX9_idle_55 : decode cX9_idle 55 = .ok (.ifCond .eq 17, 3) := by decide +kernel
theorem dX9_idle_58 : decode cX9_idle 58 = .ok (.aload_n 0, 1) := by decide +kernel
theorem dX9_idle_59 : decode cX9_idle 59 = .ok (.iload_n 3, 1) := by decide +kernel
theorem dX9_idle_60 : decode cX9_idle 60 = .ok (.iload 4, 2) := by decide +kernel
theorem dX9_idle_62 : decode cX9_idle 62 = .ok (.invokevirtual 228, 3) := by decide +kernel
theorem dX9_idle_65 : decode cX9_idle 65 = .ok (.iload_n 1, 1) := by decide +kernel
theorem dX9_idle_66 : decode cX9_idle 66 = .ok (.if_icmp .ne 6, 3) := by decide +kernel
theorem dX9_idle_69 : decode cX9_idle 69 = .ok (.iinc 2 1, 3) := by decide +kernel
theorem dX9_idle_72 : decode cX9_idle 72 = .ok (.iinc 4 1, 3) := by decide +kernel
theorem dX9_idle_75 : decode cX9_idle 75 = .ok (.goto (-39), 3) := by decide +kernel
theorem dX9_idle_78 : decode cX9_idle 78 = .ok (.iinc 3 1, 3) := by decide +kernel
theorem dX9_idle_81 : decode cX9_idle 81 = .ok (.goto (-59), 3) := by decide +kernel
theorem dX9_idle_84 : decode cX9_idle 84 = .ok (.iload_n 2, 1) := by decide +kernel
theorem dX9_idle_85 : decode cX9_idle 85 = .ok (.ireturn, 1) := by decide +kernel
theorem dX9_lawful_0 : decode cX9_lawful 0 = .ok (.aload_n 0, 1) := by decide +kernel
theorem dX9_lawful_1 : decode cX9_lawful 1 = .ok (.iload_n 1, 1) := by decide +kernel
theorem dX9_lawful_2 : decode cX9_lawful 2 = .ok (.invokevirtual 243, 3) := by decide +kernel
theorem dX9_lawful_5 : decode cX9_lawful 5 = .ok (.istore_n 2, 1) := by decide +kernel
theorem dX9_lawful_6 : decode cX9_lawful 6 = .ok (.iload_n 2, 1) := by decide +kernel
theorem dX9_lawful_7 : decode cX9_lawful 7 = .ok (.ifCond .eq 5, 3) := by decide +kernel
theorem dX9_lawful_10 : decode cX9_lawful 10 = .ok (.iload_n 2, 1) := by decide +kernel
theorem dX9_lawful_11 : decode cX9_lawful 11 = .ok (.ireturn, 1) := by decide +kernel
theorem dX9_lawful_12 : decode cX9_lawful 12 = .ok (.aload_n 0, 1) := by decide +kernel
theorem dX9_lawful_13 : decode cX9_lawful 13 = .ok (.iload_n 1, 1) := by decide +kernel
theorem dX9_lawful_14 : decode cX9_lawful 14 = .ok (.aload_n 0, 1) := by decide +kernel
theorem dX9_lawful_15 : decode cX9_lawful 15 = .ok (.getfield 82, 3) := by decide +kernel
theorem dX9_lawful_18 : decode cX9_lawful 18 = .ok (.invokevirtual 246, 3) := by decide +kernel
theorem dX9_lawful_21 : decode cX9_lawful 21 = .ok (.aload_n 0, 1) := by decide +kernel
theorem dX9_lawful_22 : decode cX9_lawful 22 = .ok (.getfield 49, 3) := by decide +kernel
theorem dX9_lawful_25 : decode cX9_lawful 25 = .ok (.aload_n 0, 1) := by decide +kernel
theorem dX9_lawful_26 : decode cX9_lawful 26 = .ok (.getfield 82, 3) := by decide +kernel
theorem dX9_lawful_29 : decode cX9_lawful 29 = .ok (.aload_n 0, 1) := by decide +kernel
theorem dX9_lawful_30 : decode cX9_lawful 30 = .ok (.getfield 42, 3) := by decide +kernel
theorem dX9_lawful_33 : decode cX9_lawful 33 = .ok (.getfield 129, 3) := by decide +kernel
theorem dX9_lawful_36 : decode cX9_lawful 36 = .ok (.aload_n 0, 1) := by decide +kernel
theorem dX9_lawful_37 : decode cX9_lawful 37 = .ok (.getfield 42, 3) := by decide +kernel
theorem dX9_lawful_40 : decode cX9_lawful 40 = .ok (.getfield 132, 3) := by decide +kernel
theorem dX9_lawful_43 : decode cX9_lawful 43 = .ok (.invokevirtual 216, 3) := by decide +kernel
theorem dX9_lawful_46 : decode cX9_lawful 46 = .ok (.ireturn, 1) := by decide +kernel
theorem dX9_address_0 : decode cX9_address 0 = .ok (.aload_n 0, 1) := by decide +kernel
theorem dX9_address_1 : decode cX9_address 1 = .ok (.iload_n 1, 1) := by decide +kernel
theorem dX9_address_2 : decode cX9_address 2 = .ok (.invokevirtual 243, 3) := by decide +kernel
theorem dX9_address_5 : decode cX9_address 5 = .ok (.istore_n 3, 1) := by decide +kernel
theorem dX9_address_6 : decode cX9_address 6 = .ok (.iload_n 3, 1) := by decide +kernel
theorem dX9_address_7 : decode cX9_address 7 = .ok (.bipush (-2), 2) := by decide +kernel
theorem dX9_address_9 : decode cX9_address 9 = .ok (.if_icmp .eq 14, 3) := by decide +kernel
theorem dX9_address_12 : decode cX9_address 12 = .ok (.aload_n 0, 1) := by decide +kernel
theorem dX9_address_13 : decode cX9_address 13 = .ok (.getfield 42, 3) := by decide +kernel
theorem dX9_address_16 : decode cX9_address 16 = .ok (.iload_n 2, 1) := by decide +kernel
theorem dX9_address_17 : decode cX9_address 17 = .ok (.invokevirtual 148, 3) := by decide +kernel
theorem dX9_address_20 : decode cX9_address 20 = .ok (.ifCond .ne 6, 3) := by decide +kernel
theorem dX9_address_23 : decode cX9_address 23 = .ok (.bipush (-2), 2) := by decide +kernel
theorem dX9_address_25 : decode cX9_address 25 = .ok (.ireturn, 1) := by decide +kernel
theorem dX9_address_26 : decode cX9_address 26 = .ok (.iload_n 3, 1) := by decide +kernel
theorem dX9_address_27 : decode cX9_address 27 = .ok (.ifCond .eq 5, 3) := by decide +kernel
theorem dX9_address_30 : decode cX9_address 30 = .ok (.iload_n 3, 1) := by decide +kernel
theorem dX9_address_31 : decode cX9_address 31 = .ok (.ireturn, 1) := by decide +kernel
theorem dX9_address_32 : decode cX9_address 32 = .ok (.aload_n 0, 1) := by decide +kernel
theorem dX9_address_33 : decode cX9_address 33 = .ok (.iload_n 1, 1) := by decide +kernel
theorem dX9_address_34 : decode cX9_address 34 = .ok (.aload_n 0, 1) := by decide +kernel
theorem dX9_address_35 : decode cX9_address 35 = .ok (.getfield 82, 3) := by decide +kernel
theorem dX9_address_38 : decode cX9_address 38 = .ok (.invokevirtual 246, 3) := by decide +kernel
theorem dX9_address_41 : decode cX9_address 41 = .ok (.aload_n 0, 1) := by decide +kernel
theorem dX9_address_42 : decode cX9_address 42 = .ok (.getfield 82, 3) := by decide +kernel
theorem dX9_address_45 : decode cX9_address 45 = .ok (.iload_n 2, 1) := by decide +kernel
theorem dX9_address_46 : decode cX9_address 46 = .ok (.iaload, 1) := by decide +kernel
theorem dX9_address_47 : decode cX9_address 47 = .ok (.ireturn, 1) := by decide +kernel
theorem dX9_ways_0 : decode cX9_ways 0 = .ok (.aload_n 0, 1) := by decide +kernel
theorem dX9_ways_1 : decode cX9_ways 1 = .ok (.iconst 2, 1) := by decide +kernel
theorem dX9_ways_2 : decode cX9_ways 2 = .ok (.invokevirtual 243, 3) := by decide +kernel
theorem dX9_ways_5 : decode cX9_ways 5 = .ok (.istore_n 1, 1) := by decide +kernel
theorem dX9_ways_6 : decode cX9_ways 6 = .ok (.iload_n 1, 1) := by decide +kernel
theorem dX9_ways_7 : decode cX9_ways 7 = .ok (.ifCond .eq 6, 3) := by decide +kernel
theorem dX9_ways_10 : decode cX9_ways 10 = .ok (.iload_n 1, 1) := by decide +kernel
theorem dX9_ways_11 : decode cX9_ways 11 = .ok (.i2l, 1) := by decide +kernel
theorem dX9_ways_12 : decode cX9_ways 12 = .ok (.lreturn, 1) := by decide +kernel
theorem dX9_ways_13 : decode cX9_ways 13 = .ok (.aload_n 0, 1) := by decide +kernel
theorem dX9_ways_14 : decode cX9_ways 14 = .ok (.getfield 67, 3) := by decide +kernel
theorem dX9_ways_17 : decode cX9_ways 17 = .ok (.invokevirtual 250, 3) := by decide +kernel
theorem dX9_ways_20 : decode cX9_ways 20 = .ok (.aload_n 0, 1) := by decide +kernel
theorem dX9_ways_21 : decode cX9_ways 21 = .ok (.getfield 67, 3) := by decide +kernel
theorem dX9_ways_24 : decode cX9_ways 24 = .ok (.getfield 253, 3) := by decide +kernel
theorem dX9_ways_27 : decode cX9_ways 27 = .ok (.lreturn, 1) := by decide +kernel
theorem dX9_dearest_0 : decode cX9_dearest 0 = .ok (.aload_n 0, 1) := by decide +kernel
theorem dX9_dearest_1 : decode cX9_dearest 1 = .ok (.iconst 2, 1) := by decide +kernel
theorem dX9_dearest_2 : decode cX9_dearest 2 = .ok (.invokevirtual 243, 3) := by decide +kernel
theorem dX9_dearest_5 : decode cX9_dearest 5 = .ok (.istore_n 1, 1) := by decide +kernel
theorem dX9_dearest_6 : decode cX9_dearest 6 = .ok (.iload_n 1, 1) := by decide +kernel
theorem dX9_dearest_7 : decode cX9_dearest 7 = .ok (.ifCond .eq 5, 3) := by decide +kernel
theorem dX9_dearest_10 : decode cX9_dearest 10 = .ok (.iload_n 1, 1) := by decide +kernel
theorem dX9_dearest_11 : decode cX9_dearest 11 = .ok (.ireturn, 1) := by decide +kernel
theorem dX9_dearest_12 : decode cX9_dearest 12 = .ok (.aload_n 0, 1) := by decide +kernel
theorem dX9_dearest_13 : decode cX9_dearest 13 = .ok (.getfield 67, 3) := by decide +kernel
theorem dX9_dearest_16 : decode cX9_dearest 16 = .ok (.invokevirtual 250, 3) := by decide +kernel
theorem dX9_dearest_19 : decode cX9_dearest 19 = .ok (.aload_n 0, 1) := by decide +kernel
theorem dX9_dearest_20 : decode cX9_dearest 20 = .ok (.getfield 67, 3) := by decide +kernel
theorem dX9_dearest_23 : decode cX9_dearest 23 = .ok (.getfield 257, 3) := by decide +kernel
theorem dX9_dearest_26 : decode cX9_dearest 26 = .ok (.ireturn, 1) := by decide +kernel
theorem dX9_put_0 : decode cX9_put 0 = .ok (.aload_n 0, 1) := by decide +kernel
theorem dX9_put_1 : decode cX9_put 1 = .ok (.iload_n 1, 1) := by decide +kernel
theorem dX9_put_2 : decode cX9_put 2 = .ok (.iload_n 2, 1) := by decide +kernel
theorem dX9_put_3 : decode cX9_put 3 = .ok (.invokevirtual 224, 3) := by decide +kernel
theorem dX9_put_6 : decode cX9_put 6 = .ok (.istore_n 3, 1) := by decide +kernel
theorem dX9_put_7 : decode cX9_put 7 = .ok (.iload_n 3, 1) := by decide +kernel
theorem dX9_put_8 : decode cX9_put 8 = .ok (.ifCond .eq 5, 3) := by decide +kernel
theorem dX9_put_11 : decode cX9_put 11 = .ok (.iload_n 3, 1) := by decide +kernel
theorem dX9_put_12 : decode cX9_put 12 = .ok (.ireturn, 1) := by decide +kernel
theorem dX9_put_13 : decode cX9_put 13 = .ok (.aload_n 0, 1) := by decide +kernel
theorem dX9_put_14 : decode cX9_put 14 = .ok (.getfield 74, 3) := by decide +kernel
theorem dX9_put_17 : decode cX9_put 17 = .ok (.aload_n 0, 1) := by decide +kernel
theorem dX9_put_18 : decode cX9_put 18 = .ok (.getfield 78, 3) := by decide +kernel
theorem dX9_put_21 : decode cX9_put 21 = .ok (.invokevirtual 260, 3) := by decide +kernel
theorem dX9_put_24 : decode cX9_put 24 = .ok (.ifCond .ne 6, 3) := by decide +kernel
theorem dX9_put_27 : decode cX9_put 27 = .ok (.bipush (-5), 2) := by decide +kernel
theorem dX9_put_29 : decode cX9_put 29 = .ok (.ireturn, 1) := by decide +kernel
theorem dX9_put_30 : decode cX9_put 30 = .ok (.aload_n 0, 1) := by decide +kernel
theorem dX9_put_31 : decode cX9_put 31 = .ok (.getfield 78, 3) := by decide +kernel
theorem dX9_put_34 : decode cX9_put 34 = .ok (.iload_n 1, 1) := by decide +kernel
theorem dX9_put_35 : decode cX9_put 35 = .ok (.iload_n 2, 1) := by decide +kernel
theorem dX9_put_36 : decode cX9_put 36 = .ok (.iastore, 1) := by decide +kernel
theorem dX9_put_37 : decode cX9_put 37 = .ok (.aload_n 0, 1) := by decide +kernel
theorem dX9_put_38 : decode cX9_put 38 = .ok (.invokevirtual 198, 3) := by decide +kernel
theorem dX9_put_41 : decode cX9_put 41 = .ok (.ireturn, 1) := by decide +kernel
theorem dX9_swap_0 : decode cX9_swap 0 = .ok (.aload_n 0, 1) := by decide +kernel
theorem dX9_swap_1 : decode cX9_swap 1 = .ok (.iload_n 1, 1) := by decide +kernel
theorem dX9_swap_2 : decode cX9_swap 2 = .ok (.iload_n 2, 1) := by decide +kernel
theorem dX9_swap_3 : decode cX9_swap 3 = .ok (.invokevirtual 231, 3) := by decide +kernel
theorem dX9_swap_6 : decode cX9_swap 6 = .ok (.istore_n 3, 1) := by decide +kernel
theorem dX9_swap_7 : decode cX9_swap 7 = .ok (.iload_n 3, 1) := by decide +kernel
theorem dX9_swap_8 : decode cX9_swap 8 = .ok (.ifCond .eq 5, 3) := by decide +kernel
theorem dX9_swap_11 : decode cX9_swap 11 = .ok (.iload_n 3, 1) := by decide +kernel
theorem dX9_swap_12 : decode cX9_swap 12 = .ok (.ireturn, 1) := by decide +kernel
theorem dX9_swap_13 : decode cX9_swap 13 = .ok (.aload_n 0, 1) := by decide +kernel
theorem dX9_swap_14 : decode cX9_swap 14 = .ok (.getfield 74, 3) := by decide +kernel
theorem dX9_swap_17 : decode cX9_swap 17 = .ok (.aload_n 0, 1) := by decide +kernel
theorem dX9_swap_18 : decode cX9_swap 18 = .ok (.getfield 78, 3) := by decide +kernel
theorem dX9_swap_21 : decode cX9_swap 21 = .ok (.invokevirtual 260, 3) := by decide +kernel
theorem dX9_swap_24 : decode cX9_swap 24 = .ok (.ifCond .ne 6, 3) := by decide +kernel
theorem dX9_swap_27 : decode cX9_swap 27 = .ok (.bipush (-5), 2) := by decide +kernel
theorem dX9_swap_29 : decode cX9_swap 29 = .ok (.ireturn, 1) := by decide +kernel
theorem dX9_swap_30 : decode cX9_swap 30 = .ok (.aload_n 0, 1) := by decide +kernel
theorem dX9_swap_31 : decode cX9_swap 31 = .ok (.iload_n 1, 1) := by decide +kernel
theorem dX9_swap_32 : decode cX9_swap 32 = .ok (.iload_n 2, 1) := by decide +kernel
theorem dX9_swap_33 : decode cX9_swap 33 = .ok (.invokevirtual 264, 3) := by decide +kernel
theorem dX9_swap_36 : decode cX9_swap 36 = .ok (.aload_n 0, 1) := by decide +kernel
theorem dX9_swap_37 : decode cX9_swap 37 = .ok (.invokevirtual 198, 3) := by decide +kernel
theorem dX9_swap_40 : decode cX9_swap 40 = .ok (.ireturn, 1) := by decide +kernel
theorem dX9_lays_0 : decode cX9_lays 0 = .ok (.aload_n 0, 1) := by decide +kernel
theorem dX9_lays_1 : decode cX9_lays 1 = .ok (.iload_n 1, 1) := by decide +kernel
theorem dX9_lays_2 : decode cX9_lays 2 = .ok (.invokevirtual 243, 3) := by decide +kernel
theorem dX9_lays_5 : decode cX9_lays 5 = .ok (.istore_n 2, 1) := by decide +kernel
theorem dX9_lays_6 : decode cX9_lays 6 = .ok (.iload_n 2, 1) := by decide +kernel
theorem dX9_lays_7 : decode cX9_lays 7 = .ok (.bipush (-2), 2) := by decide +kernel
theorem dX9_lays_9 : decode cX9_lays 9 = .ok (.if_icmp .ne 6, 3) := by decide +kernel
theorem dX9_lays_12 : decode cX9_lays 12 = .ok (.bipush (-2), 2) := by decide +kernel
theorem dX9_lays_14 : decode cX9_lays 14 = .ok (.ireturn, 1) := by decide +kernel
theorem dX9_lays_15 : decode cX9_lays 15 = .ok (.aload_n 0, 1) := by decide +kernel
theorem dX9_lays_16 : decode cX9_lays 16 = .ok (.getfield 74, 3) := by decide +kernel
theorem dX9_lays_19 : decode cX9_lays 19 = .ok (.getfield 117, 3) := by decide +kernel
theorem dX9_lays_22 : decode cX9_lays 22 = .ok (.bipush 20, 2) := by decide +kernel
theorem dX9_lays_24 : decode cX9_lays 24 = .ok (.if_icmp .lt 6, 3) := by decide +kernel
theorem dX9_lays_27 : decode cX9_lays 27 = .ok (.bipush (-5), 2) := by decide +kernel
theorem dX9_lays_29 : decode cX9_lays 29 = .ok (.ireturn, 1) := by decide +kernel
theorem dX9_lays_30 : decode cX9_lays 30 = .ok (.iload_n 2, 1) := by decide +kernel
theorem dX9_lays_31 : decode cX9_lays 31 = .ok (.ifCond .eq 5, 3) := by decide +kernel
theorem dX9_lays_34 : decode cX9_lays 34 = .ok (.iload_n 2, 1) := by decide +kernel
theorem dX9_lays_35 : decode cX9_lays 35 = .ok (.ireturn, 1) := by decide +kernel
theorem dX9_lays_36 : decode cX9_lays 36 = .ok (.aload_n 0, 1) := by decide +kernel
theorem dX9_lays_37 : decode cX9_lays 37 = .ok (.getfield 74, 3) := by decide +kernel
theorem dX9_lays_40 : decode cX9_lays 40 = .ok (.aload_n 0, 1) := by decide +kernel
theorem dX9_lays_41 : decode cX9_lays 41 = .ok (.getfield 78, 3) := by decide +kernel
theorem dX9_lays_44 : decode cX9_lays 44 = .ok (.invokevirtual 260, 3) := by decide +kernel
theorem dX9_lays_47 : decode cX9_lays 47 = .ok (.pop, 1) := by decide +kernel
theorem dX9_lays_48 : decode cX9_lays 48 = .ok (.aload_n 0, 1) := by decide +kernel
theorem dX9_lays_49 : decode cX9_lays 49 = .ok (.iload_n 1, 1) := by decide +kernel
theorem dX9_lays_50 : decode cX9_lays 50 = .ok (.aload_n 0, 1) := by decide +kernel
theorem dX9_lays_51 : decode cX9_lays 51 = .ok (.getfield 78, 3) := by decide +kernel
theorem dX9_lays_54 : decode cX9_lays 54 = .ok (.invokevirtual 246, 3) := by decide +kernel
theorem dX9_lays_57 : decode cX9_lays 57 = .ok (.aload_n 0, 1) := by decide +kernel
theorem dX9_lays_58 : decode cX9_lays 58 = .ok (.invokevirtual 198, 3) := by decide +kernel
theorem dX9_lays_61 : decode cX9_lays 61 = .ok (.ireturn, 1) := by decide +kernel
theorem dX9_undo_0 : decode cX9_undo 0 = .ok (.aload_n 0, 1) := by decide +kernel
theorem dX9_undo_1 : decode cX9_undo 1 = .ok (.getfield 42, 3) := by decide +kernel
theorem dX9_undo_4 : decode cX9_undo 4 = .ok (.getfield 120, 3) := by decide +kernel
theorem dX9_undo_7 : decode cX9_undo 7 = .ok (.ifCond .ne 6, 3) := by decide +kernel
theorem dX9_undo_10 : decode cX9_undo 10 = .ok (.bipush (-2), 2) := by decide +kernel
theorem dX9_undo_12 : decode cX9_undo 12 = .ok (.ireturn, 1) := by decide +kernel
theorem dX9_undo_13 : decode cX9_undo 13 = .ok (.aload_n 0, 1) := by decide +kernel
theorem dX9_undo_14 : decode cX9_undo 14 = .ok (.getfield 74, 3) := by decide +kernel
theorem dX9_undo_17 : decode cX9_undo 17 = .ok (.getfield 117, 3) := by decide +kernel
theorem dX9_undo_20 : decode cX9_undo 20 = .ok (.ifCond .ne 6, 3) := by decide +kernel
theorem dX9_undo_23 : decode cX9_undo 23 = .ok (.bipush (-5), 2) := by decide +kernel
theorem dX9_undo_25 : decode cX9_undo 25 = .ok (.ireturn, 1) := by decide +kernel
theorem dX9_undo_26 : decode cX9_undo 26 = .ok (.aload_n 0, 1) := by decide +kernel
theorem dX9_undo_27 : decode cX9_undo 27 = .ok (.getfield 74, 3) := by decide +kernel
theorem dX9_undo_30 : decode cX9_undo 30 = .ok (.aload_n 0, 1) := by decide +kernel
theorem dX9_undo_31 : decode cX9_undo 31 = .ok (.getfield 74, 3) := by decide +kernel
theorem dX9_undo_34 : decode cX9_undo 34 = .ok (.getfield 117, 3) := by decide +kernel
theorem dX9_undo_37 : decode cX9_undo 37 = .ok (.iconst 1, 1) := by decide +kernel
theorem dX9_undo_38 : decode cX9_undo 38 = .ok (.isub, 1) := by decide +kernel
theorem dX9_undo_39 : decode cX9_undo 39 = .ok (.aload_n 0, 1) := by decide +kernel
theorem dX9_undo_40 : decode cX9_undo 40 = .ok (.getfield 78, 3) := by decide +kernel
theorem dX9_undo_43 : decode cX9_undo 43 = .ok (.invokevirtual 268, 3) := by decide +kernel
theorem dX9_undo_46 : decode cX9_undo 46 = .ok (.aload_n 0, 1) := by decide +kernel
theorem dX9_undo_47 : decode cX9_undo 47 = .ok (.getfield 74, 3) := by decide +kernel
theorem dX9_undo_50 : decode cX9_undo 50 = .ok (.getfield 117, 3) := by decide +kernel
theorem dX9_undo_53 : decode cX9_undo 53 = .ok (.ireturn, 1) := by decide +kernel
theorem dX9_anew_0 : decode cX9_anew 0 = .ok (.aload_n 0, 1) := by decide +kernel
theorem dX9_anew_1 : decode cX9_anew 1 = .ok (.getfield 42, 3) := by decide +kernel
theorem dX9_anew_4 : decode cX9_anew 4 = .ok (.getfield 120, 3) := by decide +kernel
theorem dX9_anew_7 : decode cX9_anew 7 = .ok (.ifCond .ne 6, 3) := by decide +kernel
theorem dX9_anew_10 : decode cX9_anew 10 = .ok (.bipush (-2), 2) := by decide +kernel
theorem dX9_anew_12 : decode cX9_anew 12 = .ok (.ireturn, 1) := by decide +kernel
theorem dX9_anew_13 : decode cX9_anew 13 = .ok (.aload_n 0, 1) := by decide +kernel
theorem dX9_anew_14 : decode cX9_anew 14 = .ok (.getfield 74, 3) := by decide +kernel
theorem dX9_anew_17 : decode cX9_anew 17 = .ok (.getfield 117, 3) := by decide +kernel
theorem dX9_anew_20 : decode cX9_anew 20 = .ok (.istore_n 1, 1) := by decide +kernel
theorem dX9_anew_21 : decode cX9_anew 21 = .ok (.aload_n 0, 1) := by decide +kernel
theorem dX9_anew_22 : decode cX9_anew 22 = .ok (.getfield 74, 3) := by decide +kernel
theorem dX9_anew_25 : decode cX9_anew 25 = .ok (.iconst 0, 1) := by decide +kernel
theorem dX9_anew_26 : decode cX9_anew 26 = .ok (.aload_n 0, 1) := by decide +kernel
theorem dX9_anew_27 : decode cX9_anew 27 = .ok (.getfield 78, 3) := by decide +kernel
theorem dX9_anew_30 : decode cX9_anew 30 = .ok (.invokevirtual 268, 3) := by decide +kernel
theorem dX9_anew_33 : decode cX9_anew 33 = .ok (.iload_n 1, 1) := by decide +kernel
theorem dX9_anew_34 : decode cX9_anew 34 = .ok (.ireturn, 1) := by decide +kernel
theorem dX9_itemAt_0 : decode cX9_itemAt 0 = .ok (.iconst 0, 1) := by decide +kernel
theorem dX9_itemAt_1 : decode cX9_itemAt 1 = .ok (.istore_n 2, 1) := by decide +kernel
theorem dX9_itemAt_2 : decode cX9_itemAt 2 = .ok (.iload_n 2, 1) := by decide +kernel
theorem dX9_itemAt_3 : decode cX9_itemAt 3 = .ok (.aload_n 0, 1) := by decide +kernel
theorem dX9_itemAt_4 : decode cX9_itemAt 4 = .ok (.getfield 42, 3) := by decide +kernel
theorem dX9_itemAt_7 : decode cX9_itemAt 7 = .ok (.getfield 207, 3) := by decide +kernel
theorem dX9_itemAt_10 : decode cX9_itemAt 10 = .ok (.if_icmp .ge 21, 3) := by decide +kernel
theorem dX9_itemAt_13 : decode cX9_itemAt 13 = .ok (.aload_n 0, 1) := by decide +kernel
theorem dX9_itemAt_14 : decode cX9_itemAt 14 = .ok (.getfield 78, 3) := by decide +kernel
theorem dX9_itemAt_17 : decode cX9_itemAt 17 = .ok (.iload_n 2, 1) := by decide +kernel
theorem dX9_itemAt_18 : decode cX9_itemAt 18 = .ok (.iaload, 1) := by decide +kernel
theorem dX9_itemAt_19 : decode cX9_itemAt 19 = .ok (.iload_n 1, 1) := by decide +kernel
theorem dX9_itemAt_20 : decode cX9_itemAt 20 = .ok (.if_icmp .ne 5, 3) := by decide +kernel
theorem dX9_itemAt_23 : decode cX9_itemAt 23 = .ok (.iload_n 2, 1) := by decide +kernel
theorem dX9_itemAt_24 : decode cX9_itemAt 24 = .ok (.ireturn, 1) := by decide +kernel
theorem dX9_itemAt_25 : decode cX9_itemAt 25 = .ok (.iinc 2 1, 3) := by decide +kernel
theorem dX9_itemAt_28 : decode cX9_itemAt 28 = .ok (.goto (-26), 3) := by decide +kernel
theorem dX9_itemAt_31 : decode cX9_itemAt 31 = .ok (.iconst (-1), 1) := by decide +kernel
theorem dX9_itemAt_32 : decode cX9_itemAt 32 = .ok (.ireturn, 1) := by decide +kernel
theorem dX9_timeNow_0 : decode cX9_timeNow 0 = .ok (.aload_n 0, 1) := by decide +kernel
theorem dX9_timeNow_1 : decode cX9_timeNow 1 = .ok (.getfield 49, 3) := by decide +kernel
theorem dX9_timeNow_4 : decode cX9_timeNow 4 = .ok (.aload_n 0, 1) := by decide +kernel
theorem dX9_timeNow_5 : decode cX9_timeNow 5 = .ok (.getfield 78, 3) := by decide +kernel
theorem dX9_timeNow_8 : decode cX9_timeNow 8 = .ok (.aload_n 0, 1) := by decide +kernel
theorem dX9_timeNow_9 : decode cX9_timeNow 9 = .ok (.getfield 42, 3) := by decide +kernel
theorem dX9_timeNow_12 : decode cX9_timeNow 12 = .ok (.getfield 129, 3) := by decide +kernel
theorem dX9_timeNow_15 : decode cX9_timeNow 15 = .ok (.aload_n 0, 1) := by decide +kernel
theorem dX9_timeNow_16 : decode cX9_timeNow 16 = .ok (.getfield 42, 3) := by decide +kernel
theorem dX9_timeNow_19 : decode cX9_timeNow 19 = .ok (.getfield 132, 3) := by decide +kernel
theorem dX9_timeNow_22 : decode cX9_timeNow 22 = .ok (.invokevirtual 216, 3) := by decide +kernel
theorem dX9_timeNow_25 : decode cX9_timeNow 25 = .ok (.ireturn, 1) := by decide +kernel
theorem dX9_whenRead_0 : decode cX9_whenRead 0 = .ok (.aload_n 0, 1) := by decide +kernel
theorem dX9_whenRead_1 : decode cX9_whenRead 1 = .ok (.invokevirtual 198, 3) := by decide +kernel
theorem dX9_whenRead_4 : decode cX9_whenRead 4 = .ok (.pop, 1) := by decide +kernel
theorem dX9_whenRead_5 : decode cX9_whenRead 5 = .ok (.aload_n 0, 1) := by decide +kernel
theorem dX9_whenRead_6 : decode cX9_whenRead 6 = .ok (.getfield 49, 3) := by decide +kernel
theorem dX9_whenRead_9 : decode cX9_whenRead 9 = .ok (.iload_n 1, 1) := by decide +kernel
theorem dX9_whenRead_10 : decode cX9_whenRead 10 = .ok (.invokevirtual 271, 3) := by decide +kernel
theorem dX9_whenRead_13 : decode cX9_whenRead 13 = .ok (.ireturn, 1) := by decide +kernel
theorem dX9_lostInAll_0 : decode cX9_lostInAll 0 = .ok (.aload_n 0, 1) := by decide +kernel
theorem dX9_lostInAll_1 : decode cX9_lostInAll 1 = .ok (.invokevirtual 198, 3) := by decide +kernel
theorem dX9_lostInAll_4 : decode cX9_lostInAll 4 = .ok (.pop, 1) := by decide +kernel
theorem dX9_lostInAll_5 : decode cX9_lostInAll 5 = .ok (.aload_n 0, 1) := by decide +kernel
theorem dX9_lostInAll_6 : decode cX9_lostInAll 6 = .ok (.getfield 49, 3) := by decide +kernel
theorem dX9_lostInAll_9 : decode cX9_lostInAll 9 = .ok (.invokevirtual 213, 3) := by decide +kernel
theorem dX9_lostInAll_12 : decode cX9_lostInAll 12 = .ok (.aload_n 0, 1) := by decide +kernel
theorem dX9_lostInAll_13 : decode cX9_lostInAll 13 = .ok (.getfield 49, 3) := by decide +kernel
theorem dX9_lostInAll_16 : decode cX9_lostInAll 16 = .ok (.invokevirtual 274, 3) := by decide +kernel
theorem dX9_lostInAll_19 : decode cX9_lostInAll 19 = .ok (.iadd, 1) := by decide +kernel
theorem dX9_lostInAll_20 : decode cX9_lostInAll 20 = .ok (.ireturn, 1) := by decide +kernel
theorem dX9_refusalOfMove_0 : decode cX9_refusalOfMove 0 = .ok (.aload_n 0, 1) := by decide +kernel
theorem dX9_refusalOfMove_1 : decode cX9_refusalOfMove 1 = .ok (.getfield 42, 3) := by decide +kernel
theorem dX9_refusalOfMove_4 : decode cX9_refusalOfMove 4 = .ok (.getfield 141, 3) := by decide +kernel
theorem dX9_refusalOfMove_7 : decode cX9_refusalOfMove 7 = .ok (.ifCond .eq 25, 3) := by decide +kernel
theorem dX9_refusalOfMove_10 : decode cX9_refusalOfMove 10 = .ok (.aload_n 0, 1) := by decide +kernel
theorem dX9_refusalOfMove_11 : decode cX9_refusalOfMove 11 = .ok (.getfield 42, 3) := by decide +kernel
theorem dX9_refusalOfMove_14 : decode cX9_refusalOfMove 14 = .ok (.iload_n 1, 1) := by decide +kernel
theorem dX9_refusalOfMove_15 : decode cX9_refusalOfMove 15 = .ok (.invokevirtual 148, 3) := by decide +kernel
theorem dX9_refusalOfMove_18 : decode cX9_refusalOfMove 18 = .ok (.ifCond .eq 14, 3) := by decide +kernel
theorem dX9_refusalOfMove_21 : decode cX9_refusalOfMove 21 = .ok (.aload_n 0, 1) := by decide +kernel
theorem dX9_refusalOfMove_22 : decode cX9_refusalOfMove 22 = .ok (.getfield 42, 3) := by decide +kernel
theorem dX9_refusalOfMove_25 : decode cX9_refusalOfMove 25 = .ok (.iload_n 2, 1) := by decide +kernel
theorem dX9_refusalOfMove_26 : decode cX9_refusalOfMove 26 = .ok (.invokevirtual 161, 3) := by decide +kernel
theorem dX9_refusalOfMove_29 : decode cX9_refusalOfMove 29 = .ok (.ifCond .ne 6, 3) := by decide +kernel
theorem dX9_refusalOfMove_32 : decode cX9_refusalOfMove 32 = .ok (.bipush (-2), 2) := by decide +kernel
theorem dX9_refusalOfMove_34 : decode cX9_refusalOfMove 34 = .ok (.ireturn, 1) := by decide +kernel
theorem dX9_refusalOfMove_35 : decode cX9_refusalOfMove 35 = .ok (.aload_n 0, 1) := by decide +kernel
theorem dX9_refusalOfMove_36 : decode cX9_refusalOfMove 36 = .ok (.iload_n 2, 1) := by decide +kernel
theorem dX9_refusalOfMove_37 : decode cX9_refusalOfMove 37 = .ok (.invokevirtual 164, 3) := by decide +kernel
theorem dX9_refusalOfMove_40 : decode cX9_refusalOfMove 40 = .ok (.istore_n 3, 1) := by decide +kernel
theorem dX9_refusalOfMove_41 : decode cX9_refusalOfMove 41 = .ok (.aload_n 0, 1) := by decide +kernel
theorem dX9_refusalOfMove_42 : decode cX9_refusalOfMove 42 = .ok (.getfield 42, 3) := by decide +kernel
theorem dX9_refusalOfMove_45 : decode cX9_refusalOfMove 45 = .ok (.iload_n 1, 1) := by decide +kernel
theorem dX9_refusalOfMove_46 : decode cX9_refusalOfMove 46 = .ok (.invokevirtual 155, 3) := by decide +kernel
theorem dX9_refusalOfMove_49 : decode cX9_refusalOfMove 49 = .ok (.ifCond .ne 13, 3) := by decide +kernel
theorem dX9_refusalOfMove_52 : decode cX9_refusalOfMove 52 = .ok (.iload_n 3, 1) := by decide +kernel
theorem dX9_refusalOfMove_53 : decode cX9_refusalOfMove 53 = .ok (.iconst (-1), 1) := by decide +kernel
theorem dX9_refusalOfMove_54 : decode cX9_refusalOfMove 54 = .ok (.if_icmp .eq 13, 3) := by decide +kernel
theorem dX9_refusalOfMove_57 : decode cX9_refusalOfMove 57 = .ok (.iload_n 3, 1) := by decide +kernel
theorem dX9_refusalOfMove_58 : decode cX9_refusalOfMove 58 = .ok (.iload_n 1, 1) := by decide +kernel
theorem dX9_refusalOfMove_59 : decode cX9_refusalOfMove 59 = .ok (.if_icmp .eq 8, 3) := by decide +kernel
theorem dX9_refusalOfMove_62 : decode cX9_refusalOfMove 62 = .ok (.bipush (-5), 2) := by decide +kernel
theorem dX9_refusalOfMove_64 : decode cX9_refusalOfMove 64 = .ok (.goto 4, 3) := by decide +kernel
theorem dX9_refusalOfMove_67 : decode cX9_refusalOfMove 67 = .ok (.iconst 0, 1) := by decide +kernel
theorem dX9_refusalOfMove_68 : decode cX9_refusalOfMove 68 = .ok (.ireturn, 1) := by decide +kernel
theorem dX9_refusalOfExchange_0 : decode cX9_refusalOfExchange 0 = .ok (.aload_n 0, 1) := by decide +kernel
theorem dX9_refusalOfExchange_1 : decode cX9_refusalOfExchange 1 = .ok (.getfield 42, 3) := by decide +kernel
theorem dX9_refusalOfExchange_4 : decode cX9_refusalOfExchange 4 = .ok (.getfield 141, 3) := by decide +kernel
theorem dX9_refusalOfExchange_7 : decode cX9_refusalOfExchange 7 = .ok (.ifCond .eq 30, 3) := by decide +kernel
theorem dX9_refusalOfExchange_10 : decode cX9_refusalOfExchange 10 = .ok (.iload_n 1, 1) := by decide +kernel
theorem dX9_refusalOfExchange_11 : decode cX9_refusalOfExchange 11 = .ok (.iload_n 2, 1) := by decide +kernel
theorem dX9_refusalOfExchange_12 : decode cX9_refusalOfExchange 12 = .ok (.if_icmp .eq 25, 3) := by decide +kernel
theorem dX9_refusalOfExchange_15 : decode cX9_refusalOfExchange 15 = .ok (.aload_n 0, 1) := by decide +kernel
theorem dX9_refusalOfExchange_16 : decode cX9_refusalOfExchange 16 = .ok (.getfield 42, 3) := by decide +kernel
theorem dX9_refusalOfExchange_19 : decode cX9_refusalOfExchange 19 = .ok (.iload_n 1, 1) := by decide +kernel
theorem dX9_refusalOfExchange_20 : decode cX9_refusalOfExchange 20 = .ok (.invokevirtual 148, 3) := by decide +kernel
theorem dX9_refusalOfExchange_23 : decode cX9_refusalOfExchange 23 = .ok (.ifCond .eq 14, 3) := by decide +kernel
theorem dX9_refusalOfExchange_26 : decode cX9_refusalOfExchange 26 = .ok (.aload_n 0, 1) := by decide +kernel
theorem dX9_refusalOfExchange_27 : decode cX9_refusalOfExchange 27 = .ok (.getfield 42, 3) := by decide +kernel
theorem dX9_refusalOfExchange_30 : decode cX9_refusalOfExchange 30 = .ok (.iload_n 2, 1) := by decide +kernel
theorem dX9_refusalOfExchange_31 : decode cX9_refusalOfExchange 31 = .ok (.invokevirtual 148, 3) := by decide +kernel
theorem dX9_refusalOfExchange_34 : decode cX9_refusalOfExchange 34 = .ok (.ifCond .ne 6, 3) := by decide +kernel
theorem dX9_refusalOfExchange_37 : decode cX9_refusalOfExchange 37 = .ok (.bipush (-2), 2) := by decide +kernel
theorem dX9_refusalOfExchange_39 : decode cX9_refusalOfExchange 39 = .ok (.ireturn, 1) := by decide +kernel
theorem dX9_refusalOfExchange_40 : decode cX9_refusalOfExchange 40 = .ok (.aload_n 0, 1) := by decide +kernel
theorem dX9_refusalOfExchange_41 : decode cX9_refusalOfExchange 41 = .ok (.getfield 42, 3) := by decide +kernel
theorem dX9_refusalOfExchange_44 : decode cX9_refusalOfExchange 44 = .ok (.iload_n 1, 1) := by decide +kernel
theorem dX9_refusalOfExchange_45 : decode cX9_refusalOfExchange 45 = .ok (.invokevirtual 155, 3) := by decide +kernel
theorem dX9_refusalOfExchange_48 : decode cX9_refusalOfExchange 48 = .ok (.ifCond .ne 14, 3) := by decide +kernel
theorem dX9_refusalOfExchange_51 : decode cX9_refusalOfExchange 51 = .ok (.aload_n 0, 1) := by decide +kernel
theorem dX9_refusalOfExchange_52 : decode cX9_refusalOfExchange 52 = .ok (.getfield 42, 3) := by decide +kernel
theorem dX9_refusalOfExchange_55 : decode cX9_refusalOfExchange 55 = .ok (.iload_n 2, 1) := by decide +kernel
theorem dX9_refusalOfExchange_56 : decode cX9_refusalOfExchange 56 = .ok (.invokevirtual 155, 3) := by decide +kernel
theorem dX9_refusalOfExchange_59 : decode cX9_refusalOfExchange 59 = .ok (.ifCond .eq 8, 3) := by decide +kernel
theorem dX9_refusalOfExchange_62 : decode cX9_refusalOfExchange 62 = .ok (.bipush (-5), 2) := by decide +kernel
theorem dX9_refusalOfExchange_64 : decode cX9_refusalOfExchange 64 = .ok (.goto 4, 3) := by decide +kernel
theorem dX9_refusalOfExchange_67 : decode cX9_refusalOfExchange 67 = .ok (.iconst 0, 1) := by decide +kernel
theorem dX9_refusalOfExchange_68 : decode cX9_refusalOfExchange 68 = .ok (.ireturn, 1) := by decide +kernel
theorem dX9_refusalOfLaw_0 : decode cX9_refusalOfLaw 0 = .ok (.aload_n 0, 1) := by decide +kernel
theorem dX9_refusalOfLaw_1 : decode cX9_refusalOfLaw 1 = .ok (.getfield 42, 3) := by decide +kernel
theorem dX9_refusalOfLaw_4 : decode cX9_refusalOfLaw 4 = .ok (.getfield 141, 3) := by decide +kernel
theorem dX9_refusalOfLaw_7 : decode cX9_refusalOfLaw 7 = .ok (.ifCond .eq 12, 3) := by decide +kernel
theorem dX9_refusalOfLaw_10 : decode cX9_refusalOfLaw 10 = .ok (.iload_n 1, 1) := by decide +kernel
theorem dX9_refusalOfLaw_11 : decode cX9_refusalOfLaw 11 = .ok (.ifCond .lt 8, 3) := by decide +kernel
theorem dX9_refusalOfLaw_14 : decode cX9_refusalOfLaw 14 = .ok (.iload_n 1, 1) := by decide +kernel
theorem dX9_refusalOfLaw_15 : decode cX9_refusalOfLaw 15 = .ok (.iconst 2, 1) := by decide +kernel
theorem dX9_refusalOfLaw_16 : decode cX9_refusalOfLaw 16 = .ok (.if_icmp .le 6, 3) := by decide +kernel
theorem dX9_refusalOfLaw_19 : decode cX9_refusalOfLaw 19 = .ok (.bipush (-2), 2) := by decide +kernel
theorem dX9_refusalOfLaw_21 : decode cX9_refusalOfLaw 21 = .ok (.ireturn, 1) := by decide +kernel
theorem dX9_refusalOfLaw_22 : decode cX9_refusalOfLaw 22 = .ok (.iload_n 1, 1) := by decide +kernel
theorem dX9_refusalOfLaw_23 : decode cX9_refusalOfLaw 23 = .ok (.iconst 2, 1) := by decide +kernel
theorem dX9_refusalOfLaw_24 : decode cX9_refusalOfLaw 24 = .ok (.if_icmp .ne 19, 3) := by decide +kernel
theorem dX9_refusalOfLaw_27 : decode cX9_refusalOfLaw 27 = .ok (.aload_n 0, 1) := by decide +kernel
theorem dX9_refusalOfLaw_28 : decode cX9_refusalOfLaw 28 = .ok (.getfield 42, 3) := by decide +kernel
theorem dX9_refusalOfLaw_31 : decode cX9_refusalOfLaw 31 = .ok (.invokevirtual 144, 3) := by decide +kernel
theorem dX9_refusalOfLaw_34 : decode cX9_refusalOfLaw 34 = .ok (.iconst 4, 1) := by decide +kernel
theorem dX9_refusalOfLaw_35 : decode cX9_refusalOfLaw 35 = .ok (.if_icmp .le 8, 3) := by decide +kernel
theorem dX9_refusalOfLaw_38 : decode cX9_refusalOfLaw 38 = .ok (.bipush (-3), 2) := by decide +kernel
theorem dX9_refusalOfLaw_40 : decode cX9_refusalOfLaw 40 = .ok (.goto 4, 3) := by decide +kernel
theorem dX9_refusalOfLaw_43 : decode cX9_refusalOfLaw 43 = .ok (.iconst 0, 1) := by decide +kernel
theorem dX9_refusalOfLaw_44 : decode cX9_refusalOfLaw 44 = .ok (.ireturn, 1) := by decide +kernel
theorem dX9_isMove_0 : decode cX9_isMove 0 = .ok (.aload_n 0, 1) := by decide +kernel
theorem dX9_isMove_1 : decode cX9_isMove 1 = .ok (.getfield 42, 3) := by decide +kernel
theorem dX9_isMove_4 : decode cX9_isMove 4 = .ok (.iload_n 1, 1) := by decide +kernel
theorem dX9_isMove_5 : decode cX9_isMove 5 = .ok (.invokevirtual 155, 3) := by decide +kernel
theorem dX9_isMove_8 : decode cX9_isMove 8 = .ok (.ifCond .ne 16, 3) := by decide +kernel
theorem dX9_isMove_11 : decode cX9_isMove 11 = .ok (.aload_n 0, 1) := by decide +kernel
theorem dX9_isMove_12 : decode cX9_isMove 12 = .ok (.iload_n 2, 1) := by decide +kernel
theorem dX9_isMove_13 : decode cX9_isMove 13 = .ok (.invokevirtual 164, 3) := by decide +kernel
theorem dX9_isMove_16 : decode cX9_isMove 16 = .ok (.iconst (-1), 1) := by decide +kernel
theorem dX9_isMove_17 : decode cX9_isMove 17 = .ok (.if_icmp .ne 7, 3) := by decide +kernel
theorem dX9_isMove_20 : decode cX9_isMove 20 = .ok (.iconst 1, 1) := by decide +kernel
theorem dX9_isMove_21 : decode cX9_isMove 21 = .ok (.goto 4, 3) := by decide +kernel
theorem dX9_isMove_24 : decode cX9_isMove 24 = .ok (.iconst 0, 1) := by decide +kernel
theorem dX9_isMove_25 : decode cX9_isMove 25 = .ok (.ireturn, 1) := by decide +kernel
theorem dX9_timeMoved_0 : decode cX9_timeMoved 0 = .ok (.aload_n 0, 1) := by decide +kernel
theorem dX9_timeMoved_1 : decode cX9_timeMoved 1 = .ok (.getfield 49, 3) := by decide +kernel
theorem dX9_timeMoved_4 : decode cX9_timeMoved 4 = .ok (.aload_n 0, 1) := by decide +kernel
theorem dX9_timeMoved_5 : decode cX9_timeMoved 5 = .ok (.getfield 78, 3) := by decide +kernel
theorem dX9_timeMoved_8 : decode cX9_timeMoved 8 = .ok (.aload_n 0, 1) := by decide +kernel
theorem dX9_timeMoved_9 : decode cX9_timeMoved 9 = .ok (.getfield 42, 3) := by decide +kernel
theorem dX9_timeMoved_12 : decode cX9_timeMoved 12 = .ok (.getfield 132, 3) := by decide +kernel
theorem dX9_timeMoved_15 : decode cX9_timeMoved 15 = .ok (.invokevirtual 277, 3) := by decide +kernel
theorem dX9_timeMoved_18 : decode cX9_timeMoved 18 = .ok (.aload_n 0, 1) := by decide +kernel
theorem dX9_timeMoved_19 : decode cX9_timeMoved 19 = .ok (.getfield 49, 3) := by decide +kernel
theorem dX9_timeMoved_22 : decode cX9_timeMoved 22 = .ok (.iload_n 1, 1) := by decide +kernel
theorem dX9_timeMoved_23 : decode cX9_timeMoved 23 = .ok (.iload_n 2, 1) := by decide +kernel
theorem dX9_timeMoved_24 : decode cX9_timeMoved 24 = .ok (.aload_n 0, 1) := by decide +kernel
theorem dX9_timeMoved_25 : decode cX9_timeMoved 25 = .ok (.getfield 42, 3) := by decide +kernel
theorem dX9_timeMoved_28 : decode cX9_timeMoved 28 = .ok (.getfield 132, 3) := by decide +kernel
theorem dX9_timeMoved_31 : decode cX9_timeMoved 31 = .ok (.invokevirtual 281, 3) := by decide +kernel
theorem dX9_timeMoved_34 : decode cX9_timeMoved 34 = .ok (.aload_n 0, 1) := by decide +kernel
theorem dX9_timeMoved_35 : decode cX9_timeMoved 35 = .ok (.getfield 49, 3) := by decide +kernel
theorem dX9_timeMoved_38 : decode cX9_timeMoved 38 = .ok (.aload_n 0, 1) := by decide +kernel
theorem dX9_timeMoved_39 : decode cX9_timeMoved 39 = .ok (.getfield 42, 3) := by decide +kernel
theorem dX9_timeMoved_42 : decode cX9_timeMoved 42 = .ok (.getfield 129, 3) := by decide +kernel
theorem dX9_timeMoved_45 : decode cX9_timeMoved 45 = .ok (.iconst 0, 1) := by decide +kernel
theorem dX9_timeMoved_46 : decode cX9_timeMoved 46 = .ok (.invokevirtual 285, 3) := by decide +kernel
theorem dX9_timeMoved_49 : decode cX9_timeMoved 49 = .ok (.ireturn, 1) := by decide +kernel
theorem dX9_timeExchanged_0 : decode cX9_timeExchanged 0 = .ok (.aload_n 0, 1) := by decide +kernel
theorem dX9_timeExchanged_1 : decode cX9_timeExchanged 1 = .ok (.getfield 49, 3) := by decide +kernel
theorem dX9_timeExchanged_4 : decode cX9_timeExchanged 4 = .ok (.aload_n 0, 1) := by decide +kernel
theorem dX9_timeExchanged_5 : decode cX9_timeExchanged 5 = .ok (.getfield 78, 3) := by decide +kernel
theorem dX9_timeExchanged_8 : decode cX9_timeExchanged 8 = .ok (.aload_n 0, 1) := by decide +kernel
theorem dX9_timeExchanged_9 : decode cX9_timeExchanged 9 = .ok (.getfield 42, 3) := by decide +kernel
theorem dX9_timeExchanged_12 : decode cX9_timeExchanged 12 = .ok (.getfield 132, 3) := by decide +kernel
theorem dX9_timeExchanged_15 : decode cX9_timeExchanged 15 = .ok (.invokevirtual 277, 3) := by decide +kernel
theorem dX9_timeExchanged_18 : decode cX9_timeExchanged 18 = .ok (.aload_n 0, 1) := by decide +kernel
theorem dX9_timeExchanged_19 : decode cX9_timeExchanged 19 = .ok (.getfield 49, 3) := by decide +kernel
theorem dX9_timeExchanged_22 : decode cX9_timeExchanged 22 = .ok (.iload_n 1, 1) := by decide +kernel
theorem dX9_timeExchanged_23 : decode cX9_timeExchanged 23 = .ok (.aload_n 0, 1) := by decide +kernel
theorem dX9_timeExchanged_24 : decode cX9_timeExchanged 24 = .ok (.getfield 78, 3) := by decide +kernel
theorem dX9_timeExchanged_27 : decode cX9_timeExchanged 27 = .ok (.iload_n 2, 1) := by decide +kernel
theorem dX9_timeExchanged_28 : decode cX9_timeExchanged 28 = .ok (.iaload, 1) := by decide +kernel
theorem dX9_timeExchanged_29 : decode cX9_timeExchanged 29 = .ok (.aload_n 0, 1) := by decide +kernel
theorem dX9_timeExchanged_30 : decode cX9_timeExchanged 30 = .ok (.getfield 42, 3) := by decide +kernel
theorem dX9_timeExchanged_33 : decode cX9_timeExchanged 33 = .ok (.getfield 132, 3) := by decide +kernel
theorem dX9_timeExchanged_36 : decode cX9_timeExchanged 36 = .ok (.invokevirtual 281, 3) := by decide +kernel
theorem dX9_timeExchanged_39 : decode cX9_timeExchanged 39 = .ok (.aload_n 0, 1) := by decide +kernel
theorem dX9_timeExchanged_40 : decode cX9_timeExchanged 40 = .ok (.getfield 49, 3) := by decide +kernel
theorem dX9_timeExchanged_43 : decode cX9_timeExchanged 43 = .ok (.iload_n 2, 1) := by decide +kernel
theorem dX9_timeExchanged_44 : decode cX9_timeExchanged 44 = .ok (.aload_n 0, 1) := by decide +kernel
theorem dX9_timeExchanged_45 : decode cX9_timeExchanged 45 = .ok (.getfield 78, 3) := by decide +kernel
theorem dX9_timeExchanged_48 : decode cX9_timeExchanged 48 = .ok (.iload_n 1, 1) := by decide +kernel
theorem dX9_timeExchanged_49 : decode cX9_timeExchanged 49 = .ok (.iaload, 1) := by decide +kernel
theorem dX9_timeExchanged_50 : decode cX9_timeExchanged 50 = .ok (.aload_n 0, 1) := by decide +kernel
theorem dX9_timeExchanged_51 : decode cX9_timeExchanged 51 = .ok (.getfield 42, 3) := by decide +kernel
theorem dX9_timeExchanged_54 : decode cX9_timeExchanged 54 = .ok (.getfield 132, 3) := by decide +kernel
theorem dX9_timeExchanged_57 : decode cX9_timeExchanged 57 = .ok (.invokevirtual 281, 3) := by decide +kernel
theorem dX9_timeExchanged_60 : decode cX9_timeExchanged 60 = .ok (.aload_n 0, 1) := by decide +kernel
theorem dX9_timeExchanged_61 : decode cX9_timeExchanged 61 = .ok (.getfield 49, 3) := by decide +kernel
theorem dX9_timeExchanged_64 : decode cX9_timeExchanged 64 = .ok (.aload_n 0, 1) := by decide +kernel
theorem dX9_timeExchanged_65 : decode cX9_timeExchanged 65 = .ok (.getfield 42, 3) := by decide +kernel
theorem dX9_timeExchanged_68 : decode cX9_timeExchanged 68 = .ok (.getfield 129, 3) := by decide +kernel
theorem dX9_timeExchanged_71 : decode cX9_timeExchanged 71 = .ok (.iconst 0, 1) := by decide +kernel
theorem dX9_timeExchanged_72 : decode cX9_timeExchanged 72 = .ok (.invokevirtual 285, 3) := by decide +kernel
theorem dX9_timeExchanged_75 : decode cX9_timeExchanged 75 = .ok (.ireturn, 1) := by decide +kernel
theorem dX9_exchange_0 : decode cX9_exchange 0 = .ok (.aload_n 0, 1) := by decide +kernel
theorem dX9_exchange_1 : decode cX9_exchange 1 = .ok (.getfield 78, 3) := by decide +kernel
theorem dX9_exchange_4 : decode cX9_exchange 4 = .ok (.iload_n 1, 1) := by decide +kernel
theorem dX9_exchange_5 : decode cX9_exchange 5 = .ok (.iaload, 1) := by decide +kernel
theorem dX9_exchange_6 : decode cX9_exchange 6 = .ok (.istore_n 3, 1) := by decide +kernel
theorem dX9_exchange_7 : decode cX9_exchange 7 = .ok (.aload_n 0, 1) := by decide +kernel
theorem dX9_exchange_8 : decode cX9_exchange 8 = .ok (.getfield 78, 3) := by decide +kernel
theorem dX9_exchange_11 : decode cX9_exchange 11 = .ok (.iload_n 1, 1) := by decide +kernel
theorem dX9_exchange_12 : decode cX9_exchange 12 = .ok (.aload_n 0, 1) := by decide +kernel
theorem dX9_exchange_13 : decode cX9_exchange 13 = .ok (.getfield 78, 3) := by decide +kernel
theorem dX9_exchange_16 : decode cX9_exchange 16 = .ok (.iload_n 2, 1) := by decide +kernel
theorem dX9_exchange_17 : decode cX9_exchange 17 = .ok (.iaload, 1) := by decide +kernel
theorem dX9_exchange_18 : decode cX9_exchange 18 = .ok (.iastore, 1) := by decide +kernel
theorem dX9_exchange_19 : decode cX9_exchange 19 = .ok (.aload_n 0, 1) := by decide +kernel
theorem dX9_exchange_20 : decode cX9_exchange 20 = .ok (.getfield 78, 3) := by decide +kernel
theorem dX9_exchange_23 : decode cX9_exchange 23 = .ok (.iload_n 2, 1) := by decide +kernel
theorem dX9_exchange_24 : decode cX9_exchange 24 = .ok (.iload_n 3, 1) := by decide +kernel
theorem dX9_exchange_25 : decode cX9_exchange 25 = .ok (.iastore, 1) := by decide +kernel
theorem dX9_exchange_26 : decode cX9_exchange 26 = .ok (.return_, 1) := by decide +kernel
theorem dX9_layBy_0 : decode cX9_layBy 0 = .ok (.iload_n 1, 1) := by decide +kernel
theorem dX9_layBy_1 : decode cX9_layBy 1 = .ok (.ifCond .ne 14, 3) := by decide +kernel
theorem dX9_layBy_4 : decode cX9_layBy 4 = .ok (.aload_n 0, 1) := by decide +kernel
theorem dX9_layBy_5 : decode cX9_layBy 5 = .ok (.getfield 58, 3) := by decide +kernel
theorem dX9_layBy_8 : decode cX9_layBy 8 = .ok (.aload_n 2, 1) := by decide +kernel
theorem dX9_layBy_9 : decode cX9_layBy 9 = .ok (.invokevirtual 110, 3) := by decide +kernel
theorem dX9_layBy_12 : decode cX9_layBy 12 = .ok (.goto 37, 3) := by decide +kernel
theorem dX9_layBy_15 : decode cX9_layBy 15 = .ok (.iload_n 1, 1) := by decide +kernel
theorem dX9_layBy_16 : decode cX9_layBy 16 = .ok (.iconst 1, 1) := by decide +kernel
theorem dX9_layBy_17 : decode cX9_layBy 17 = .ok (.if_icmp .ne 14, 3) := by decide +kernel
theorem dX9_layBy_20 : decode cX9_layBy 20 = .ok (.aload_n 0, 1) := by decide +kernel
theorem dX9_layBy_21 : decode cX9_layBy 21 = .ok (.getfield 58, 3) := by decide +kernel
theorem dX9_layBy_24 : decode cX9_layBy 24 = .ok (.aload_n 2, 1) := by decide +kernel
theorem dX9_layBy_25 : decode cX9_layBy 25 = .ok (.invokevirtual 289, 3) := by decide +kernel
theorem dX9_layBy_28 : decode cX9_layBy 28 = .ok (.goto 21, 3) := by decide +kernel
theorem dX9_layBy_31 : decode cX9_layBy 31 = .ok (.aload_n 0, 1) := by decide +kernel
theorem dX9_layBy_32 : decode cX9_layBy 32 = .ok (.getfield 67, 3) := by decide +kernel
theorem dX9_layBy_35 : decode cX9_layBy 35 = .ok (.invokevirtual 250, 3) := by decide +kernel
theorem dX9_layBy_38 : decode cX9_layBy 38 = .ok (.aload_n 0, 1) := by decide +kernel
theorem dX9_layBy_39 : decode cX9_layBy 39 = .ok (.getfield 67, 3) := by decide +kernel
theorem dX9_layBy_42 : decode cX9_layBy 42 = .ok (.getfield 292, 3) := by decide +kernel
theorem dX9_layBy_45 : decode cX9_layBy 45 = .ok (.aload_n 2, 1) := by decide +kernel
theorem dX9_layBy_46 : decode cX9_layBy 46 = .ok (.invokestatic 295, 3) := by decide +kernel
theorem dX9_layBy_49 : decode cX9_layBy 49 = .ok (.return_, 1) := by decide +kernel
theorem dX9_copyItems_0 : decode cX9_copyItems 0 = .ok (.aload_n 0, 1) := by decide +kernel
theorem dX9_copyItems_1 : decode cX9_copyItems 1 = .ok (.iconst 0, 1) := by decide +kernel
theorem dX9_copyItems_2 : decode cX9_copyItems 2 = .ok (.aload_n 1, 1) := by decide +kernel
theorem dX9_copyItems_3 : decode cX9_copyItems 3 = .ok (.iconst 0, 1) := by decide +kernel
theorem dX9_copyItems_4 : decode cX9_copyItems 4 = .ok (.bipush 20, 2) := by decide +kernel
theorem dX9_copyItems_6 : decode cX9_copyItems 6 = .ok (.invokestatic 299, 3) := by decide +kernel
theorem dX9_copyItems_9 : decode cX9_copyItems 9 = .ok (.return_, 1) := by decide +kernel
theorem dX9_isQuick_0 : decode cX9_isQuick 0 = .ok (.iload_n 0, 1) := by decide +kernel
theorem dX9_isQuick_1 : decode cX9_isQuick 1 = .ok (.ifCond .eq 18, 3) := by decide +kernel
theorem dX9_isQuick_4 : decode cX9_isQuick 4 = .ok (.iload_n 0, 1) := by decide +kernel
theorem dX9_isQuick_5 : decode cX9_isQuick 5 = .ok (.ifCond .le 18, 3) := by decide +kernel
theorem dX9_isQuick_8 : decode cX9_isQuick 8 = .ok (.iload_n 0, 1) := by decide +kernel
theorem dX9_isQuick_9 : decode cX9_isQuick 9 = .ok (.iload_n 1, 1) := by decide +kernel
theorem dX9_isQuick_10 : decode cX9_isQuick 10 = .ok (.if_icmp .ge 13, 3) := by decide +kernel
theorem dX9_isQuick_13 : decode cX9_isQuick 13 = .ok (.iload_n 1, 1) := by decide +kernel
theorem dX9_isQuick_14 : decode cX9_isQuick 14 = .ok (.iload_n 0, 1) := by decide +kernel
theorem dX9_isQuick_15 : decode cX9_isQuick 15 = .ok (.irem, 1) := by decide +kernel
theorem dX9_isQuick_16 : decode cX9_isQuick 16 = .ok (.ifCond .ne 7, 3) := by decide +kernel
theorem dX9_isQuick_19 : decode cX9_isQuick 19 = .ok (.iconst 1, 1) := by decide +kernel
theorem dX9_isQuick_20 : decode cX9_isQuick 20 = .ok (.goto 4, 3) := by decide +kernel
theorem dX9_isQuick_23 : decode cX9_isQuick 23 = .ok (.iconst 0, 1) := by decide +kernel
theorem dX9_isQuick_24 : decode cX9_isQuick 24 = .ok (.ireturn, 1) := by decide +kernel
theorem dX10_in_0 : decode cX10_in 0 = .ok (.lload_n 0, 1) := by decide +kernel
theorem dX10_in_1 : decode cX10_in 1 = .ok (.lload_n 2, 1) := by decide +kernel
theorem dX10_in_2 : decode cX10_in 2 = .ok (.lcmp, 1) := by decide +kernel
theorem dX10_in_3 : decode cX10_in 3 = .ok (.ifCond .lt 14, 3) := by decide +kernel
theorem dX10_in_6 : decode cX10_in 6 = .ok (.lload_n 0, 1) := by decide +kernel
theorem dX10_in_7 : decode cX10_in 7 = .ok (.lload 4, 2) := by decide +kernel
theorem dX10_in_9 : decode cX10_in 9 = .ok (.lcmp, 1) := by decide +kernel
theorem dX10_in_10 : decode cX10_in 10 = .ok (.ifCond .gt 7, 3) := by decide +kernel
theorem dX10_in_13 : decode cX10_in 13 = .ok (.iconst 1, 1) := by decide +kernel
theorem dX10_in_14 : decode cX10_in 14 = .ok (.goto 4, 3) := by decide +kernel
theorem dX10_in_17 : decode cX10_in 17 = .ok (.iconst 0, 1) := by decide +kernel
theorem dX10_in_18 : decode cX10_in 18 = .ok (.ireturn, 1) := by decide +kernel
theorem dX10_init_0 : decode cX10_init 0 = .ok (.aload_n 0, 1) := by decide +kernel
theorem dX10_init_1 : decode cX10_init 1 = .ok (.invokespecial 1, 3) := by decide +kernel
theorem dX10_init_4 : decode cX10_init 4 = .ok (.aload_n 0, 1) := by decide +kernel
theorem dX10_init_5 : decode cX10_init 5 = .ok (.sipush 169, 3) := by decide +kernel
theorem dX10_init_8 : decode cX10_init 8 = .ok (.newarray .int, 2) := by decide +kernel
theorem dX10_init_10 : decode cX10_init 10 = .ok (.putfield 7, 3) := by decide +kernel
theorem dX10_init_13 : decode cX10_init 13 = .ok (.aload_n 0, 1) := by decide +kernel
theorem dX10_init_14 : decode cX10_init 14 = .ok (.sipush 169, 3) := by decide +kernel
theorem dX10_init_17 : decode cX10_init 17 = .ok (.newarray .int, 2) := by decide +kernel
theorem dX10_init_19 : decode cX10_init 19 = .ok (.putfield 13, 3) := by decide +kernel
theorem dX10_init_22 : decode cX10_init 22 = .ok (.aload_n 0, 1) := by decide +kernel
theorem dX10_init_23 : decode cX10_init 23 = .ok (.sipush 400, 3) := by decide +kernel
theorem dX10_init_26 : decode cX10_init 26 = .ok (.newarray .int, 2) := by decide +kernel
theorem dX10_init_28 : decode cX10_init 28 = .ok (.putfield 16, 3) := by decide +kernel
theorem dX10_init_31 : decode cX10_init 31 = .ok (.aload_n 0, 1) := by decide +kernel
theorem dX10_init_32 : decode cX10_init 32 = .ok (.sipush 700, 3) := by decide +kernel
theorem dX10_init_35 : decode cX10_init 35 = .ok (.newarray .int, 2) := by decide +kernel
theorem dX10_init_37 : decode cX10_init 37 = .ok (.putfield 19, 3) := by decide +kernel
theorem dX10_init_40 : decode cX10_init 40 = .ok (.aload_n 0, 1) := by decide +kernel
theorem dX10_init_41 : decode cX10_init 41 = .ok (.iconst (-1), 1) := by decide +kernel
theorem dX10_init_42 : decode cX10_init 42 = .ok (.putfield 22, 3) := by decide +kernel
theorem dX10_init_45 : decode cX10_init 45 = .ok (.aload_n 0, 1) := by decide +kernel
theorem dX10_init_46 : decode cX10_init 46 = .ok (.bipush 20, 2) := by decide +kernel
theorem dX10_init_48 : decode cX10_init 48 = .ok (.newarray .int, 2) := by decide +kernel
theorem dX10_init_50 : decode cX10_init 50 = .ok (.putfield 26, 3) := by decide +kernel
theorem dX10_init_53 : decode cX10_init 53 = .ok (.aload_n 0, 1) := by decide +kernel
theorem dX10_init_54 : decode cX10_init 54 = .ok (.bipush 20, 2) := by decide +kernel
theorem dX10_init_56 : decode cX10_init 56 = .ok (.newarray .int, 2) := by decide +kernel
theorem dX10_init_58 : decode cX10_init 58 = .ok (.putfield 29, 3) := by decide +kernel
theorem dX10_init_61 : decode cX10_init 61 = .ok (.aload_n 0, 1) := by decide +kernel
theorem dX10_init_62 : decode cX10_init 62 = .ok (.bipush 24, 2) := by decide +kernel
theorem dX10_init_64 : decode cX10_init 64 = .ok (.newarray .int, 2) := by decide +kernel
theorem dX10_init_66 : decode cX10_init 66 = .ok (.putfield 32, 3) := by decide +kernel
theorem dX10_init_69 : decode cX10_init 69 = .ok (.aload_n 0, 1) := by decide +kernel
theorem dX10_init_70 : decode cX10_init 70 = .ok (.bipush 24, 2) := by decide +kernel
theorem dX10_init_72 : decode cX10_init 72 = .ok (.newarray .int, 2) := by decide +kernel
theorem dX10_init_74 : decode cX10_init 74 = .ok (.putfield 35, 3) := by decide +kernel
theorem dX10_init_77 : decode cX10_init 77 = .ok (.aload_n 0, 1) := by decide +kernel
theorem dX10_init_78 : decode cX10_init 78 = .ok (.bipush 24, 2) := by decide +kernel
theorem dX10_init_80 : decode cX10_init 80 = .ok (.newarray .int, 2) := by decide +kernel
theorem dX10_init_82 : decode cX10_init 82 = .ok (.putfield 38, 3) := by decide +kernel
theorem dX10_init_85 : decode cX10_init 85 = .ok (.aload_n 0, 1) := by decide +kernel
theorem dX10_init_86 : decode cX10_init 86 = .ok (.bipush 24, 2) := by decide +kernel
theorem dX10_init_88 : decode cX10_init 88 = .ok (.newarray .boolean, 2) := by decide +kernel
theorem dX10_init_90 : decode cX10_init 90 = .ok (.putfield 41, 3) := by decide +kernel
theorem dX10_init_93 : decode cX10_init 93 = .ok (.aload_n 0, 1) := by decide +kernel
theorem dX10_init_94 : decode cX10_init 94 = .ok (.sipush 200, 3) := by decide +kernel
theorem dX10_init_97 : decode cX10_init 97 = .ok (.newarray .int, 2) := by decide +kernel
theorem dX10_init_99 : decode cX10_init 99 = .ok (.putfield 45, 3) := by decide +kernel
theorem dX10_init_102 : decode cX10_init 102 = .ok (.aload_n 0, 1) := by decide +kernel
theorem dX10_init_103 : decode cX10_init 103 = .ok (.sipush 200, 3) := by decide +kernel
theorem dX10_init_106 : decode cX10_init 106 = .ok (.newarray .int, 2) := by decide +kernel
theorem dX10_init_108 : decode cX10_init 108 = .ok (.putfield 48, 3) := by decide +kernel
theorem dX10_init_111 : decode cX10_init 111 = .ok (.aload_n 0, 1) := by decide +kernel
theorem dX10_init_112 : decode cX10_init 112 = .ok (.sipush 200, 3) := by decide +kernel
theorem dX10_init_115 : decode cX10_init 115 = .ok (.newarray .int, 2) := by decide +kernel
theorem dX10_init_117 : decode cX10_init 117 = .ok (.putfield 51, 3) := by decide +kernel
theorem dX10_init_120 : decode cX10_init 120 = .ok (.aload_n 0, 1) := by decide +kernel
theorem dX10_init_121 : decode cX10_init 121 = .ok (.bipush 100, 2) := by decide +kernel
theorem dX10_init_123 : decode cX10_init 123 = .ok (.newarray .int, 2) := by decide +kernel
theorem dX10_init_125 : decode cX10_init 125 = .ok (.putfield 54, 3) := by decide +kernel
theorem dX10_init_128 : decode cX10_init 128 = .ok (.aload_n 0, 1) := by decide +kernel
theorem dX10_init_129 : decode cX10_init 129 = .ok (.bipush 100, 2) := by decide +kernel
theorem dX10_init_131 : decode cX10_init 131 = .ok (.newarray .int, 2) := by decide +kernel
theorem dX10_init_133 : decode cX10_init 133 = .ok (.putfield 57, 3) := by decide +kernel
theorem dX10_init_136 : decode cX10_init 136 = .ok (.aload_n 0, 1) := by decide +kernel
theorem dX10_init_137 : decode cX10_init 137 = .ok (.bipush 100, 2) := by decide +kernel
theorem dX10_init_139 : decode cX10_init 139 = .ok (.newarray .int, 2) := by decide +kernel
theorem dX10_init_141 : decode cX10_init 141 = .ok (.putfield 60, 3) := by decide +kernel
theorem dX10_init_144 : decode cX10_init 144 = .ok (.aload_n 0, 1) := by decide +kernel
theorem dX10_init_145 : decode cX10_init 145 = .ok (.bipush 100, 2) := by decide +kernel
theorem dX10_init_147 : decode cX10_init 147 = .ok (.newarray .int, 2) := by decide +kernel
theorem dX10_init_149 : decode cX10_init 149 = .ok (.putfield 63, 3) := by decide +kernel
theorem dX10_init_152 : decode cX10_init 152 = .ok (.aload_n 0, 1) := by decide +kernel
theorem dX10_init_153 : decode cX10_init 153 = .ok (.bipush 20, 2) := by decide +kernel
theorem dX10_init_155 : decode cX10_init 155 = .ok (.newarray .int, 2) := by decide +kernel
theorem dX10_init_157 : decode cX10_init 157 = .ok (.putfield 66, 3) := by decide +kernel
theorem dX10_init_160 : decode cX10_init 160 = .ok (.aload_n 0, 1) := by decide +kernel
theorem dX10_init_161 : decode cX10_init 161 = .ok (.bipush 20, 2) := by decide +kernel
theorem dX10_init_163 : decode cX10_init 163 = .ok (.newarray .int, 2) := by decide +kernel
theorem dX10_init_165 : decode cX10_init 165 = .ok (.putfield 69, 3) := by decide +kernel
theorem dX10_init_168 : decode cX10_init 168 = .ok (.aload_n 0, 1) := by decide +kernel
theorem dX10_init_169 : decode cX10_init 169 = .ok (.bipush 20, 2) := by decide +kernel
theorem dX10_init_171 : decode cX10_init 171 = .ok (.newarray .int, 2) := by decide +kernel
theorem dX10_init_173 : decode cX10_init 173 = .ok (.putfield 72, 3) := by decide +kernel
theorem dX10_init_176 : decode cX10_init 176 = .ok (.aload_n 0, 1) := by decide +kernel
theorem dX10_init_177 : decode cX10_init 177 = .ok (.bipush 20, 2) := by decide +kernel
theorem dX10_init_179 : decode cX10_init 179 = .ok (.newarray .int, 2) := by decide +kernel
theorem dX10_init_181 : decode cX10_init 181 = .ok (.putfield 75, 3) := by decide +kernel
theorem dX10_init_184 : decode cX10_init 184 = .ok (.aload_n 0, 1) := by decide +kernel
theorem dX10_init_185 : decode cX10_init 185 = .ok (.bipush 20, 2) := by decide +kernel
theorem dX10_init_187 : decode cX10_init 187 = .ok (.newarray .int, 2) := by decide +kernel
theorem dX10_init_189 : decode cX10_init 189 = .ok (.putfield 78, 3) := by decide +kernel
theorem dX10_init_192 : decode cX10_init 192 = .ok (.aload_n 0, 1) := by decide +kernel
theorem dX10_init_193 : decode cX10_init 193 = .ok (.bipush 48, 2) := by decide +kernel
theorem dX10_init_195 : decode cX10_init 195 = .ok (.newarray .int, 2) := by decide +kernel
theorem dX10_init_197 : decode cX10_init 197 = .ok (.putfield 81, 3) := by decide +kernel
theorem dX10_init_200 : decode cX10_init 200 = .ok (.aload_n 0, 1) := by decide +kernel
theorem dX10_init_201 : decode cX10_init 201 = .ok (.bipush 24, 2) := by decide +kernel
theorem dX10_init_203 : decode cX10_init 203 = .ok (.newarray .int, 2) := by decide +kernel
theorem dX10_init_205 : decode cX10_init 205 = .ok (.putfield 84, 3) := by decide +kernel
theorem dX10_init_208 : decode cX10_init 208 = .ok (.aload_n 0, 1) := by decide +kernel
theorem dX10_init_209 : decode cX10_init 209 = .ok (.iconst 4, 1) := by decide +kernel
theorem dX10_init_210 : decode cX10_init 210 = .ok (.newarray .int, 2) := by decide +kernel
theorem dX10_init_212 : decode cX10_init 212 = .ok (.putfield 87, 3) := by decide +kernel
theorem dX10_init_215 : decode cX10_init 215 = .ok (.aload_n 0, 1) := by decide +kernel
theorem dX10_init_216 : decode cX10_init 216 = .ok (.iconst 4, 1) := by decide +kernel
theorem dX10_init_217 : decode cX10_init 217 = .ok (.newarray .int, 2) := by decide +kernel
theorem dX10_init_219 : decode cX10_init 219 = .ok (.putfield 90, 3) := by decide +kernel
theorem dX10_init_222 : decode cX10_init 222 = .ok (.return_, 1) := by decide +kernel
theorem dX10_feed_0 : decode cX10_feed 0 = .ok (.aload_n 0, 1) := by decide +kernel
theorem dX10_feed_1 : decode cX10_feed 1 = .ok (.getfield 93, 3) := by decide +kernel
theorem dX10_feed_4 : decode cX10_feed 4 = .ok (.sipush 680, 3) := by decide +kernel
theorem dX10_feed_7 : decode cX10_feed 7 = .ok (.if_icmp .le 5, 3) := by decide +kernel
theorem dX10_feed_10 : decode cX10_feed 10 = .ok (.iconst (-1), 1) := by decide +kernel
theorem dX10_feed_11 : decode cX10_feed 11 = .ok (.ireturn, 1) := by decide +kernel
theorem dX10_feed_12 : decode cX10_feed 12 = .ok (.iconst 5, 1) := by decide +kernel
theorem dX10_feed_13 : decode cX10_feed 13 = .ok (.newarray .int, 2) := by decide +kernel
theorem dX10_feed_15 : decode cX10_feed 15 = .ok (.dup, 1) := by decide +kernel
theorem dX10_feed_16 : decode cX10_feed 16 = .ok (.iconst 0, 1) := by decide +kernel
theorem dX10_feed_17 : decode cX10_feed 17 = .ok (.iload_n 1, 1) := by decide +kernel
theorem dX10_feed_18 : decode cX10_feed 18 = .ok (.iastore, 1) := by decide +kernel
theorem dX10_feed_19 : decode cX10_feed 19 = .ok (.dup, 1) := by decide +kernel
theorem dX10_feed_20 : decode cX10_feed 20 = .ok (.iconst 1, 1) := by decide +kernel
theorem dX10_feed_21 : decode cX10_feed 21 = .ok (.iload_n 2, 1) := by decide +kernel
theorem dX10_feed_22 : decode cX10_feed 22 = .ok (.iastore, 1) := by decide +kernel
theorem dX10_feed_23 : decode cX10_feed 23 = .ok (.dup, 1) := by decide +kernel
theorem dX10_feed_24 : decode cX10_feed 24 = .ok (.iconst 2, 1) := by decide +kernel
theorem dX10_feed_25 : decode cX10_feed 25 = .ok (.iload_n 3, 1) := by decide +kernel
theorem dX10_feed_26 : decode cX10_feed 26 = .ok (.iastore, 1) := by decide +kernel
theorem dX10_feed_27 : decode cX10_feed 27 = .ok (.dup, 1) := by decide +kernel
theorem dX10_feed_28 : decode cX10_feed 28 = .ok (.iconst 3, 1) := by decide +kernel
theorem dX10_feed_29 : decode cX10_feed 29 = .ok (.iload 4, 2) := by decide +kernel
theorem dX10_feed_31 : decode cX10_feed 31 = .ok (.iastore, 1) := by decide +kernel
theorem dX10_feed_32 : decode cX10_feed 32 = .ok (.dup, 1) := by decide +kernel
theorem dX10_feed_33 : decode cX10_feed 33 = .ok (.iconst 4, 1) := by decide +kernel
theorem dX10_feed_34 : decode cX10_feed 34 = .ok (.iload 5, 2) := by decide +kernel
theorem dX10_feed_36 : decode cX10_feed 36 = .ok (.iastore, 1) := by decide +kernel
theorem dX10_feed_37 : decode cX10_feed 37 = .ok (.astore 6, 2) := by decide +kernel
theorem dX10_feed_39 : decode cX10_feed 39 = .ok (.iconst 0, 1) := by decide +kernel
theorem dX10_feed_40 : decode cX10_feed 40 = .ok (.istore 7, 2) := by decide +kernel
theorem dX10_feed_42 : decode cX10_feed 42 = .ok (.iload 7, 2) := by decide +kernel
theorem dX10_feed_44 : decode cX10_feed 44 = .ok (.bipush 20, 2) := by decide +kernel
theorem dX10_feed_46 : decode cX10_feed 46 = .ok (.if_icmp .ge 43, 3) := by decide +kernel
theorem dX10_feed_49 : decode cX10_feed 49 = .ok (.aload_n 0, 1) := by decide +kernel
theorem dX10_feed_50 : decode cX10_feed 50 = .ok (.getfield 19, 3) := by decide +kernel
theorem dX10_feed_53 : decode cX10_feed 53 = .ok (.aload_n 0, 1) := by decide +kernel
theorem dX10_feed_54 : decode cX10_feed 54 = .ok (.getfield 93, 3) := by decide +kernel
theorem dX10_feed_57 : decode cX10_feed 57 = .ok (.iload 7, 2) := by decide +kernel
theorem dX10_feed_59 : decode cX10_feed 59 = .ok (.iadd, 1) := by decide +kernel
theorem dX10_feed_60 : decode cX10_feed 60 = .ok (.aload 6, 2) := by decide +kernel
theorem dX10_feed_62 : decode cX10_feed 62 = .ok (.iload 7, 2) := by decide +kernel
theorem dX10_feed_64 : decode cX10_feed 64 = .ok (.iconst 4, 1) := by decide +kernel
theorem dX10_feed_65 : decode cX10_feed 65 = .ok (.idiv, 1) := by decide +kernel
theorem dX10_feed_66 : decode cX10_feed 66 = .ok (.iaload, 1) := by decide +kernel
theorem dX10_feed_67 : decode cX10_feed 67 = .ok (.bipush 24, 2) := by decide +kernel
theorem dX10_feed_69 : decode cX10_feed 69 = .ok (.bipush 8, 2) := by decide +kernel
theorem dX10_feed_71 : decode cX10_feed 71 = .ok (.iload 7, 2) := by decide +kernel
theorem dX10_feed_73 : decode cX10_feed 73 = .ok (.iconst 4, 1) := by decide +kernel
theorem dX10_feed_74 : decode cX10_feed 74 = .ok (.irem, 1) := by decide +kernel
theorem dX10_feed_75 : decode cX10_feed 75 = .ok (.imul, 1) := by decide +kernel
theorem dX10_feed_76 : decode cX10_feed 76 = .ok (.isub, 1) := by decide +kernel
theorem dX10_feed_77 : decode cX10_feed 77 = .ok (.iushr, 1) := by decide +kernel
theorem dX10_feed_78 : decode cX10_feed 78 = .ok (.sipush 255, 3) := by decide +kernel
theorem dX10_feed_81 : decode cX10_feed 81 = .ok (.iand, 1) := by decide +kernel
theorem dX10_feed_82 : decode cX10_feed 82 = .ok (.iastore, 1) := by decide +kernel
theorem dX10_feed_83 : decode cX10_feed 83 = .ok (.iinc 7 1, 3) := by decide +kernel
theorem dX10_feed_86 : decode cX10_feed 86 = .ok (.goto (-44), 3) := by decide +kernel
theorem dX10_feed_89 : decode cX10_feed 89 = .ok (.aload_n 0, 1) := by decide +kernel
theorem dX10_feed_90 : decode cX10_feed 90 = .ok (.dup, 1) := by decide +kernel
theorem dX10_feed_91 : decode cX10_feed 91 = .ok (.getfield 93, 3) := by decide +kernel
theorem dX10_feed_94 : decode cX10_feed 94 = .ok (.bipush 20, 2) := by decide +kernel
theorem dX10_feed_96 : decode cX10_feed 96 = .ok (.iadd, 1) := by decide +kernel
theorem dX10_feed_97 : decode cX10_feed 97 = .ok (.putfield 93, 3) := by decide +kernel
theorem dX10_feed_100 : decode cX10_feed 100 = .ok (.aload_n 0, 1) := by decide +kernel
theorem dX10_feed_101 : decode cX10_feed 101 = .ok (.getfield 93, 3) := by decide +kernel
theorem dX10_feed_104 : decode cX10_feed 104 = .ok (.ireturn, 1) := by decide +kernel
theorem dX10_end_0 : decode cX10_end 0 = .ok (.iload_n 1, 1) := by decide +kernel
theorem dX10_end_1 : decode cX10_end 1 = .ok (.i2l, 1) := by decide +kernel
theorem dX10_end_2 : decode cX10_end 2 = .ok (.lconst 0, 1) := by decide +kernel
theorem dX10_end_3 : decode cX10_end 3 = .ok (.aload_n 0, 1) := by decide +kernel
theorem dX10_end_4 : decode cX10_end 4 = .ok (.getfield 93, 3) := by decide +kernel
theorem dX10_end_7 : decode cX10_end 7 = .ok (.i2l, 1) := by decide +kernel
theorem dX10_end_8 : decode cX10_end 8 = .ok (.invokestatic 96, 3) := by decide +kernel
theorem dX10_end_11 : decode cX10_end 11 = .ok (.ifCond .ne 5, 3) := by decide +kernel
theorem dX10_end_14 : decode cX10_end 14 = .ok (.iconst (-1), 1) := by decide +kernel
theorem dX10_end_15 : decode cX10_end 15 = .ok (.ireturn, 1) := by decide +kernel
theorem dX10_end_16 : decode cX10_end 16 = .ok (.aload_n 0, 1) := by decide +kernel
theorem dX10_end_17 : decode cX10_end 17 = .ok (.iload_n 1, 1) := by decide +kernel
theorem dX10_end_18 : decode cX10_end 18 = .ok (.putfield 93, 3) := by decide +kernel
theorem dX10_end_21 : decode cX10_end 21 = .ok (.iload_n 1, 1) := by decide +kernel
theorem dX10_end_22 : decode cX10_end 22 = .ok (.ireturn, 1) := by decide +kernel
theorem dX10_isAt_0 : decode cX10_isAt 0 = .ok (.aload_n 0, 1) := by decide +kernel
theorem dX10_isAt_1 : decode cX10_isAt 1 = .ok (.getfield 100, 3) := by decide +kernel
theorem dX10_isAt_4 : decode cX10_isAt 4 = .ok (.aload_n 0, 1) := by decide +kernel
theorem dX10_isAt_5 : decode cX10_isAt 5 = .ok (.getfield 93, 3) := by decide +kernel
theorem dX10_isAt_8 : decode cX10_isAt 8 = .ok (.if_icmp .ge 27, 3) := by decide +kernel
theorem dX10_isAt_11 : decode cX10_isAt 11 = .ok (.aload_n 0, 1) := by decide +kernel
theorem dX10_isAt_12 : decode cX10_isAt 12 = .ok (.getfield 19, 3) := by decide +kernel
theorem dX10_isAt_15 : decode cX10_isAt 15 = .ok (.aload_n 0, 1) := by decide +kernel
theorem dX10_isAt_16 : decode cX10_isAt 16 = .ok (.getfield 100, 3) := by decide +kernel
theorem dX10_isAt_19 : decode cX10_isAt 19 = .ok (.iaload, 1) := by decide +kernel
theorem dX10_isAt_20 : decode cX10_isAt 20 = .ok (.i2l, 1) := by decide +kernel
theorem dX10_isAt_21 : decode cX10_isAt 21 = .ok (.iload_n 1, 1) := by decide +kernel
theorem dX10_isAt_22 : decode cX10_isAt 22 = .ok (.i2l, 1) := by decide +kernel
theorem dX10_isAt_23 : decode cX10_isAt 23 = .ok (.iload_n 2, 1) := by decide +kernel
theorem dX10_isAt_24 : decode cX10_isAt 24 = .ok (.i2l, 1) := by decide +kernel
theorem dX10_isAt_25 : decode cX10_isAt 25 = .ok (.invokestatic 96, 3) := by decide +kernel
theorem dX10_isAt_28 : decode cX10_isAt 28 = .ok (.ifCond .eq 7, 3) := by decide +kernel
theorem dX10_isAt_31 : decode cX10_isAt 31 = .ok (.iconst 1, 1) := by decide +kernel
theorem dX10_isAt_32 : decode cX10_isAt 32 = .ok (.goto 4, 3) := by decide +kernel
theorem dX10_isAt_35 : decode cX10_isAt 35 = .ok (.iconst 0, 1) := by decide +kernel
theorem dX10_isAt_36 : decode cX10_isAt 36 = .ok (.ireturn, 1) := by decide +kernel
end
section
theorem dX10_next_0 : decode cX10_next 0 = .ok (.aload_n 0, 1) := by decide +kernel
theorem dX10_next_1 : decode cX10_next 1 = .ok (.bipush 32, 2) := by decide +kernel
theorem dX10_next_3 : decode cX10_next 3 = .ok (.bipush 32, 2) := by decide +kernel
theorem dX10_next_5 : decode cX10_next 5 = .ok (.invokevirtual 103, 3) := by decide +kernel
theorem dX10_next_8 : decode cX10_next 8 = .ok (.ifCond .ne 14, 3) := by decide +kernel
theorem dX10_next_11 : decode cX10_next 11 = .ok (.aload_n 0, 1) := by decide +kernel
theorem dX10_next_12 : decode cX10_next 12 = .ok (.bipush 10, 2) := by decide +kernel
theorem dX10_next_14 : decode cX10_next 14 = .ok (.bipush 10, 2) := by decide +kernel
theorem dX10_next_16 : decode cX10_next 16 = .ok (.invokevirtual 103, 3) := by decide +kernel
theorem dX10_next_19 : decode cX10_next 19 = .ok (.ifCond .eq 16, 3) := by decide +kernel
theorem dX10_next_22 : decode cX10_next 22 = .ok (.aload_n 0, 1) := by decide +kernel
theorem dX10_next_23 : decode cX10_next 23 = .ok (.dup, 1) := by decide +kernel
theorem dX10_next_24 : decode cX10_next 24 = .ok (.getfield 100, 3) := by decide +kernel
theorem dX10_next_27 : decode cX10_next 27 = .ok (.iconst 1, 1) := by decide +kernel
theorem dX10_next_28 : decode cX10_next 28 = .ok (.iadd, 1) := by decide +kernel
theorem dX10_next_29 : decode cX10_next 29 = .ok (.putfield 100, 3) := by decide +kernel
theorem dX10_next_32 : decode cX10_next 32 = .ok (.goto (-32), 3) := by decide +kernel
theorem dX10_next_35 : decode cX10_next 35 = .ok (.aload_n 0, 1) := by decide +kernel
theorem dX10_next_36 : decode cX10_next 36 = .ok (.aload_n 0, 1) := by decide +kernel
theorem dX10_next_37 : decode cX10_next 37 = .ok (.getfield 100, 3) := by decide +kernel
theorem dX10_next_40 : decode cX10_next 40 = .ok (.putfield 107, 3) := by decide +kernel
theorem dX10_next_43 : decode cX10_next 43 = .ok (.aload_n 0, 1) := by decide +kernel
theorem dX10_next_44 : decode cX10_next 44 = .ok (.iconst 0, 1) := by decide +kernel
theorem dX10_next_45 : decode cX10_next 45 = .ok (.putfield 110, 3) := by decide +kernel
theorem dX10_next_48 : decode cX10_next 48 = .ok (.aload_n 0, 1) := by decide +kernel
theorem dX10_next_49 : decode cX10_next 49 = .ok (.iconst (-1), 1) := by decide +kernel
theorem dX10_next_50 : decode cX10_next 50 = .ok (.putfield 113, 3) := by decide +kernel
theorem dX10_next_53 : decode cX10_next 53 = .ok (.aload_n 0, 1) := by decide +kernel
theorem dX10_next_54 : decode cX10_next 54 = .ok (.getfield 100, 3) := by decide +kernel
theorem dX10_next_57 : decode cX10_next 57 = .ok (.aload_n 0, 1) := by decide +kernel
theorem dX10_next_58 : decode cX10_next 58 = .ok (.getfield 93, 3) := by decide +kernel
theorem dX10_next_61 : decode cX10_next 61 = .ok (.if_icmp .ne 11, 3) := by decide +kernel
theorem dX10_next_64 : decode cX10_next 64 = .ok (.aload_n 0, 1) := by decide +kernel
theorem dX10_next_65 : decode cX10_next 65 = .ok (.iconst 0, 1) := by decide +kernel
theorem dX10_next_66 : decode cX10_next 66 = .ok (.putfield 116, 3) := by decide +kernel
theorem dX10_next_69 : decode cX10_next 69 = .ok (.goto 164, 3) := by decide +kernel
theorem dX10_next_72 : decode cX10_next 72 = .ok (.aload_n 0, 1) := by decide +kernel
theorem dX10_next_73 : decode cX10_next 73 = .ok (.bipush 97, 2) := by decide +kernel
theorem dX10_next_75 : decode cX10_next 75 = .ok (.bipush 122, 2) := by decide +kernel
theorem dX10_next_77 : decode cX10_next 77 = .ok (.invokevirtual 103, 3) := by decide +kernel
theorem dX10_next_80 : decode cX10_next 80 = .ok (.ifCond .eq 43, 3) := by decide +kernel
theorem dX10_next_83 : decode cX10_next 83 = .ok (.aload_n 0, 1) := by decide +kernel
theorem dX10_next_84 : decode cX10_next 84 = .ok (.iconst 1, 1) := by decide +kernel
theorem dX10_next_85 : decode cX10_next 85 = .ok (.putfield 116, 3) := by decide +kernel
theorem dX10_next_88 : decode cX10_next 88 = .ok (.aload_n 0, 1) := by decide +kernel
theorem dX10_next_89 : decode cX10_next 89 = .ok (.bipush 97, 2) := by decide +kernel
theorem dX10_next_91 : decode cX10_next 91 = .ok (.bipush 122, 2) := by decide +kernel
theorem dX10_next_93 : decode cX10_next 93 = .ok (.invokevirtual 103, 3) := by decide +kernel
theorem dX10_next_96 : decode cX10_next 96 = .ok (.ifCond .eq 16, 3) := by decide +kernel
theorem dX10_next_99 : decode cX10_next 99 = .ok (.aload_n 0, 1) := by decide +kernel
theorem dX10_next_100 : decode cX10_next 100 = .ok (.dup, 1) := by decide +kernel
theorem dX10_next_101 : decode cX10_next 101 = .ok (.getfield 100, 3) := by decide +kernel
theorem dX10_next_104 : decode cX10_next 104 = .ok (.iconst 1, 1) := by decide +kernel
theorem dX10_next_105 : decode cX10_next 105 = .ok (.iadd, 1) := by decide +kernel
theorem dX10_next_106 : decode cX10_next 106 = .ok (.putfield 100, 3) := by decide +kernel
theorem dX10_next_109 : decode cX10_next 109 = .ok (.goto (-21), 3) := by decide +kernel
theorem dX10_next_112 : decode cX10_next 112 = .ok (.aload_n 0, 1) := by decide +kernel
theorem dX10_next_113 : decode cX10_next 113 = .ok (.aload_n 0, 1) := by decide +kernel
theorem dX10_next_114 : decode cX10_next 114 = .ok (.invokevirtual 119, 3) := by decide +kernel
theorem dX10_next_117 : decode cX10_next 117 = .ok (.putfield 113, 3) := by decide +kernel
theorem dX10_next_120 : decode cX10_next 120 = .ok (.goto 113, 3) := by decide +kernel
theorem dX10_next_123 : decode cX10_next 123 = .ok (.aload_n 0, 1) := by decide +kernel
theorem dX10_next_124 : decode cX10_next 124 = .ok (.bipush 48, 2) := by decide +kernel
theorem dX10_next_126 : decode cX10_next 126 = .ok (.bipush 57, 2) := by decide +kernel
theorem dX10_next_128 : decode cX10_next 128 = .ok (.invokevirtual 103, 3) := by decide +kernel
theorem dX10_next_131 : decode cX10_next 131 = .ok (.ifCond .eq 61, 3) := by decide +kernel
theorem dX10_next_134 : decode cX10_next 134 = .ok (.aload_n 0, 1) := by decide +kernel
theorem dX10_next_135 : decode cX10_next 135 = .ok (.iconst 2, 1) := by decide +kernel
theorem dX10_next_136 : decode cX10_next 136 = .ok (.putfield 116, 3) := by decide +kernel
theorem dX10_next_139 : decode cX10_next 139 = .ok (.aload_n 0, 1) := by decide +kernel
theorem dX10_next_140 : decode cX10_next 140 = .ok (.bipush 48, 2) := by decide +kernel
theorem dX10_next_142 : decode cX10_next 142 = .ok (.bipush 57, 2) := by decide +kernel
theorem dX10_next_144 : decode cX10_next 144 = .ok (.invokevirtual 103, 3) := by decide +kernel
theorem dX10_next_147 : decode cX10_next 147 = .ok (.ifCond .eq 86, 3) := by decide +kernel
theorem dX10_next_150 : decode cX10_next 150 = .ok (.aload_n 0, 1) := by decide +kernel
theorem dX10_next_151 : decode cX10_next 151 = .ok (.ldc 123, 2) := by decide +kernel
theorem dX10_next_153 : decode cX10_next 153 = .ok (.bipush 10, 2) := by decide +kernel
theorem dX10_next_155 : decode cX10_next 155 = .ok (.aload_n 0, 1) := by decide +kernel
theorem dX10_next_156 : decode cX10_next 156 = .ok (.getfield 110, 3) := by decide +kernel
theorem dX10_next_159 : decode cX10_next 159 = .ok (.imul, 1) := by decide +kernel
theorem dX10_next_160 : decode cX10_next 160 = .ok (.aload_n 0, 1) := by decide +kernel
theorem dX10_next_161 : decode cX10_next 161 = .ok (.getfield 19, 3) := by decide +kernel
theorem dX10_next_164 : decode cX10_next 164 = .ok (.aload_n 0, 1) := by decide +kernel
theorem dX10_next_165 : decode cX10_next 165 = .ok (.getfield 100, 3) := by decide +kernel
theorem dX10_next_168 : decode cX10_next 168 = .ok (.iaload, 1) := by decide +kernel
theorem dX10_next_169 : decode cX10_next 169 = .ok (.iadd, 1) := by decide +kernel
theorem dX10_next_170 : decode cX10_next 170 = .ok (.bipush 48, 2) := by decide +kernel
theorem dX10_next_172 : decode cX10_next 172 = .ok (.isub, 1) := by decide +kernel
theorem dX10_next_173 : decode cX10_next 173 = .ok (.invokestatic 124, 3) := by decide +kernel
theorem dX10_next_176 : decode cX10_next 176 = .ok (.putfield 110, 3) := by decide +kernel
theorem dX10_next_179 : decode cX10_next 179 = .ok (.aload_n 0, 1) := by decide +kernel
theorem dX10_next_180 : decode cX10_next 180 = .ok (.dup, 1) := by decide +kernel
theorem dX10_next_181 : decode cX10_next 181 = .ok (.getfield 100, 3) := by decide +kernel
theorem dX10_next_184 : decode cX10_next 184 = .ok (.iconst 1, 1) := by decide +kernel
theorem dX10_next_185 : decode cX10_next 185 = .ok (.iadd, 1) := by decide +kernel
theorem dX10_next_186 : decode cX10_next 186 = .ok (.putfield 100, 3) := by decide +kernel
theorem dX10_next_189 : decode cX10_next 189 = .ok (.goto (-50), 3) := by decide +kernel
theorem dX10_next_192 : decode cX10_next 192 = .ok (.aload_n 0, 1) := by decide +kernel
theorem dX10_next_193 : decode cX10_next 193 = .ok (.aload_n 0, 1) := by decide +kernel
theorem dX10_next_194 : decode cX10_next 194 = .ok (.bipush 59, 2) := by decide +kernel
theorem dX10_next_196 : decode cX10_next 196 = .ok (.bipush 59, 2) := by decide +kernel
theorem dX10_next_198 : decode cX10_next 198 = .ok (.invokevirtual 103, 3) := by decide +kernel
theorem dX10_next_201 : decode cX10_next 201 = .ok (.ifCond .ne 14, 3) := by decide +kernel
theorem dX10_next_204 : decode cX10_next 204 = .ok (.aload_n 0, 1) := by decide +kernel
theorem dX10_next_205 : decode cX10_next 205 = .ok (.bipush 45, 2) := by decide +kernel
theorem dX10_next_207 : decode cX10_next 207 = .ok (.bipush 45, 2) := by decide +kernel
theorem dX10_next_209 : decode cX10_next 209 = .ok (.invokevirtual 103, 3) := by decide +kernel
theorem dX10_next_212 : decode cX10_next 212 = .ok (.ifCond .eq 7, 3) := by decide +kernel
theorem dX10_next_215 : decode cX10_next 215 = .ok (.iconst 3, 1) := by decide +kernel
theorem dX10_next_216 : decode cX10_next 216 = .ok (.goto 4, 3) := by decide +kernel
theorem dX10_next_219 : decode cX10_next 219 = .ok (.iconst 4, 1) := by decide +kernel
theorem dX10_next_220 : decode cX10_next 220 = .ok (.putfield 116, 3) := by decide +kernel
theorem dX10_next_223 : decode cX10_next 223 = .ok (.aload_n 0, 1) := by decide +kernel
theorem dX10_next_224 : decode cX10_next 224 = .ok (.dup, 1) := by decide +kernel
theorem dX10_next_225 : decode cX10_next 225 = .ok (.getfield 100, 3) := by decide +kernel
theorem dX10_next_228 : decode cX10_next 228 = .ok (.iconst 1, 1) := by decide +kernel
theorem dX10_next_229 : decode cX10_next 229 = .ok (.iadd, 1) := by decide +kernel
theorem dX10_next_230 : decode cX10_next 230 = .ok (.putfield 100, 3) := by decide +kernel
theorem dX10_next_233 : decode cX10_next 233 = .ok (.return_, 1) := by decide +kernel
theorem dX10_keptHere_0 : decode cX10_keptHere 0 = .ok (.iconst 0, 1) := by decide +kernel
theorem dX10_keptHere_1 : decode cX10_keptHere 1 = .ok (.istore_n 1, 1) := by decide +kernel
theorem dX10_keptHere_2 : decode cX10_keptHere 2 = .ok (.iconst 1, 1) := by decide +kernel
theorem dX10_keptHere_3 : decode cX10_keptHere 3 = .ok (.istore_n 2, 1) := by decide +kernel
theorem dX10_keptHere_4 : decode cX10_keptHere 4 = .ok (.iload_n 2, 1) := by decide +kernel
theorem dX10_keptHere_5 : decode cX10_keptHere 5 = .ok (.ldc 130, 2) := by decide +kernel
theorem dX10_keptHere_7 : decode cX10_keptHere 7 = .ok (.invokevirtual 132, 3) := by decide +kernel
theorem dX10_keptHere_10 : decode cX10_keptHere 10 = .ok (.if_icmp .ge 114, 3) := by decide +kernel
theorem dX10_keptHere_13 : decode cX10_keptHere 13 = .ok (.iload_n 2, 1) := by decide +kernel
theorem dX10_keptHere_14 : decode cX10_keptHere 14 = .ok (.istore_n 3, 1) := by decide +kernel
theorem dX10_keptHere_15 : decode cX10_keptHere 15 = .ok (.ldc 130, 2) := by decide +kernel
theorem dX10_keptHere_17 : decode cX10_keptHere 17 = .ok (.iload_n 3, 1) := by decide +kernel
theorem dX10_keptHere_18 : decode cX10_keptHere 18 = .ok (.invokevirtual 137, 3) := by decide +kernel
theorem dX10_keptHere_21 : decode cX10_keptHere 21 = .ok (.bipush 32, 2) := by decide +kernel
theorem dX10_keptHere_23 : decode cX10_keptHere 23 = .ok (.if_icmp .eq 9, 3) := by decide +kernel
theorem dX10_keptHere_26 : decode cX10_keptHere 26 = .ok (.iinc 3 1, 3) := by decide +kernel
theorem dX10_keptHere_29 : decode cX10_keptHere 29 = .ok (.goto (-14), 3) := by decide +kernel
theorem dX10_keptHere_32 : decode cX10_keptHere 32 = .ok (.iload_n 3, 1) := by decide +kernel
theorem dX10_keptHere_33 : decode cX10_keptHere 33 = .ok (.iload_n 2, 1) := by decide +kernel
theorem dX10_keptHere_34 : decode cX10_keptHere 34 = .ok (.isub, 1) := by decide +kernel
theorem dX10_keptHere_35 : decode cX10_keptHere 35 = .ok (.aload_n 0, 1) := by decide +kernel
theorem dX10_keptHere_36 : decode cX10_keptHere 36 = .ok (.getfield 100, 3) := by decide +kernel
theorem dX10_keptHere_39 : decode cX10_keptHere 39 = .ok (.aload_n 0, 1) := by decide +kernel
theorem dX10_keptHere_40 : decode cX10_keptHere 40 = .ok (.getfield 107, 3) := by decide +kernel
theorem dX10_keptHere_43 : decode cX10_keptHere 43 = .ok (.isub, 1) := by decide +kernel
theorem dX10_keptHere_44 : decode cX10_keptHere 44 = .ok (.if_icmp .ne 7, 3) := by decide +kernel
theorem dX10_keptHere_47 : decode cX10_keptHere 47 = .ok (.iconst 1, 1) := by decide +kernel
theorem dX10_keptHere_48 : decode cX10_keptHere 48 = .ok (.goto 4, 3) := by decide +kernel
theorem dX10_keptHere_51 : decode cX10_keptHere 51 = .ok (.iconst 0, 1) := by decide +kernel
theorem dX10_keptHere_52 : decode cX10_keptHere 52 = .ok (.istore 4, 2) := by decide +kernel
theorem dX10_keptHere_54 : decode cX10_keptHere 54 = .ok (.iconst 0, 1) := by decide +kernel
theorem dX10_keptHere_55 : decode cX10_keptHere 55 = .ok (.istore 5, 2) := by decide +kernel
theorem dX10_keptHere_57 : decode cX10_keptHere 57 = .ok (.iload 5, 2) := by decide +kernel
theorem dX10_keptHere_59 : decode cX10_keptHere 59 = .ok (.iload_n 3, 1) := by decide +kernel
theorem dX10_keptHere_60 : decode cX10_keptHere 60 = .ok (.iload_n 2, 1) := by decide +kernel
theorem dX10_keptHere_61 : decode cX10_keptHere 61 = .ok (.isub, 1) := by decide +kernel
theorem dX10_keptHere_62 : decode cX10_keptHere 62 = .ok (.if_icmp .ge 45, 3) := by decide +kernel
theorem dX10_keptHere_65 : decode cX10_keptHere 65 = .ok (.iload 4, 2) := by decide +kernel
theorem dX10_keptHere_67 : decode cX10_keptHere 67 = .ok (.ifCond .eq 40, 3) := by decide +kernel
theorem dX10_keptHere_70 : decode cX10_keptHere 70 = .ok (.ldc 130, 2) := by decide +kernel
theorem dX10_keptHere_72 : decode cX10_keptHere 72 = .ok (.iload_n 2, 1) := by decide +kernel
theorem dX10_keptHere_73 : decode cX10_keptHere 73 = .ok (.iload 5, 2) := by decide +kernel
theorem dX10_keptHere_75 : decode cX10_keptHere 75 = .ok (.iadd, 1) := by decide +kernel
theorem dX10_keptHere_76 : decode cX10_keptHere 76 = .ok (.invokevirtual 137, 3) := by decide +kernel
theorem dX10_keptHere_79 : decode cX10_keptHere 79 = .ok (.aload_n 0, 1) := by decide +kernel
theorem dX10_keptHere_80 : decode cX10_keptHere 80 = .ok (.getfield 19, 3) := by decide +kernel
theorem dX10_keptHere_83 : decode cX10_keptHere 83 = .ok (.aload_n 0, 1) := by decide +kernel
theorem dX10_keptHere_84 : decode cX10_keptHere 84 = .ok (.getfield 107, 3) := by decide +kernel
theorem dX10_keptHere_87 : decode cX10_keptHere 87 = .ok (.iload 5, 2) := by decide +kernel
theorem dX10_keptHere_89 : decode cX10_keptHere 89 = .ok (.iadd, 1) := by decide +kernel
theorem dX10_keptHere_90 : decode cX10_keptHere 90 = .ok (.iaload, 1) := by decide +kernel
theorem dX10_keptHere_91 : decode cX10_keptHere 91 = .ok (.if_icmp .ne 7, 3) := by decide +kernel
theorem dX10_keptHere_94 : decode cX10_keptHere 94 = .ok (.iconst 1, 1) := by decide +kernel
theorem dX10_keptHere_95 : decode cX10_keptHere 95 = .ok (.goto 4, 3) := by decide +kernel
theorem dX10_keptHere_98 : decode cX10_keptHere 98 = .ok (.iconst 0, 1) := by decide +kernel
theorem dX10_keptHere_99 : decode cX10_keptHere 99 = .ok (.istore 4, 2) := by decide +kernel
theorem dX10_keptHere_101 : decode cX10_keptHere 101 = .ok (.iinc 5 1, 3) := by decide +kernel
theorem dX10_keptHere_104 : decode cX10_keptHere 104 = .ok (.goto (-47), 3) := by decide +kernel
theorem dX10_keptHere_107 : decode cX10_keptHere 107 = .ok (.iload 4, 2) := by decide +kernel
theorem dX10_keptHere_109 : decode cX10_keptHere 109 = .ok (.ifCond .eq 5, 3) := by decide +kernel
theorem dX10_keptHere_112 : decode cX10_keptHere 112 = .ok (.iload_n 1, 1) := by decide +kernel
theorem dX10_keptHere_113 : decode cX10_keptHere 113 = .ok (.ireturn, 1) := by decide +kernel
theorem dX10_keptHere_114 : decode cX10_keptHere 114 = .ok (.iinc 1 1, 3) := by decide +kernel
theorem dX10_keptHere_117 : decode cX10_keptHere 117 = .ok (.iload_n 3, 1) := by decide +kernel
theorem dX10_keptHere_118 : decode cX10_keptHere 118 = .ok (.iconst 1, 1) := by decide +kernel
theorem dX10_keptHere_119 : decode cX10_keptHere 119 = .ok (.iadd, 1) := by decide +kernel
theorem dX10_keptHere_120 : decode cX10_keptHere 120 = .ok (.istore_n 2, 1) := by decide +kernel
theorem dX10_keptHere_121 : decode cX10_keptHere 121 = .ok (.goto (-117), 3) := by decide +kernel
theorem dX10_keptHere_124 : decode cX10_keptHere 124 = .ok (.iconst (-1), 1) := by decide +kernel
theorem dX10_keptHere_125 : decode cX10_keptHere 125 = .ok (.ireturn, 1) := by decide +kernel
theorem dX10_isWord_0 : decode cX10_isWord 0 = .ok (.aload_n 0, 1) := by decide +kernel
theorem dX10_isWord_1 : decode cX10_isWord 1 = .ok (.getfield 116, 3) := by decide +kernel
theorem dX10_isWord_4 : decode cX10_isWord 4 = .ok (.iconst 1, 1) := by decide +kernel
theorem dX10_isWord_5 : decode cX10_isWord 5 = .ok (.if_icmp .ne 23, 3) := by decide +kernel
theorem dX10_isWord_8 : decode cX10_isWord 8 = .ok (.aload_n 0, 1) := by decide +kernel
theorem dX10_isWord_9 : decode cX10_isWord 9 = .ok (.getfield 100, 3) := by decide +kernel
theorem dX10_isWord_12 : decode cX10_isWord 12 = .ok (.aload_n 0, 1) := by decide +kernel
theorem dX10_isWord_13 : decode cX10_isWord 13 = .ok (.getfield 107, 3) := by decide +kernel
theorem dX10_isWord_16 : decode cX10_isWord 16 = .ok (.isub, 1) := by decide +kernel
theorem dX10_isWord_17 : decode cX10_isWord 17 = .ok (.aload_n 1, 1) := by decide +kernel
theorem dX10_isWord_18 : decode cX10_isWord 18 = .ok (.invokevirtual 132, 3) := by decide +kernel
theorem dX10_isWord_21 : decode cX10_isWord 21 = .ok (.if_icmp .ne 7, 3) := by decide +kernel
theorem dX10_isWord_24 : decode cX10_isWord 24 = .ok (.iconst 1, 1) := by decide +kernel
theorem dX10_isWord_25 : decode cX10_isWord 25 = .ok (.goto 4, 3) := by decide +kernel
theorem dX10_isWord_28 : decode cX10_isWord 28 = .ok (.iconst 0, 1) := by decide +kernel
theorem dX10_isWord_29 : decode cX10_isWord 29 = .ok (.istore_n 2, 1) := by decide +kernel
theorem dX10_isWord_30 : decode cX10_isWord 30 = .ok (.iconst 0, 1) := by decide +kernel
theorem dX10_isWord_31 : decode cX10_isWord 31 = .ok (.istore_n 3, 1) := by decide +kernel
theorem dX10_isWord_32 : decode cX10_isWord 32 = .ok (.iload_n 3, 1) := by decide +kernel
theorem dX10_isWord_33 : decode cX10_isWord 33 = .ok (.aload_n 1, 1) := by decide +kernel
theorem dX10_isWord_34 : decode cX10_isWord 34 = .ok (.invokevirtual 132, 3) := by decide +kernel
theorem dX10_isWord_37 : decode cX10_isWord 37 = .ok (.if_icmp .ge 38, 3) := by decide +kernel
theorem dX10_isWord_40 : decode cX10_isWord 40 = .ok (.iload_n 2, 1) := by decide +kernel
theorem dX10_isWord_41 : decode cX10_isWord 41 = .ok (.ifCond .eq 34, 3) := by decide +kernel
theorem dX10_isWord_44 : decode cX10_isWord 44 = .ok (.aload_n 0, 1) := by decide +kernel
theorem dX10_isWord_45 : decode cX10_isWord 45 = .ok (.getfield 19, 3) := by decide +kernel
theorem dX10_isWord_48 : decode cX10_isWord 48 = .ok (.aload_n 0, 1) := by decide +kernel
theorem dX10_isWord_49 : decode cX10_isWord 49 = .ok (.getfield 107, 3) := by decide +kernel
theorem dX10_isWord_52 : decode cX10_isWord 52 = .ok (.iload_n 3, 1) := by decide +kernel
theorem dX10_isWord_53 : decode cX10_isWord 53 = .ok (.iadd, 1) := by decide +kernel
theorem dX10_isWord_54 : decode cX10_isWord 54 = .ok (.iaload, 1) := by decide +kernel
theorem dX10_isWord_55 : decode cX10_isWord 55 = .ok (.aload_n 1, 1) := by decide +kernel
theorem dX10_isWord_56 : decode cX10_isWord 56 = .ok (.iload_n 3, 1) := by decide +kernel
theorem dX10_isWord_57 : decode cX10_isWord 57 = .ok (.invokevirtual 137, 3) := by decide +kernel
theorem dX10_isWord_60 : decode cX10_isWord 60 = .ok (.if_icmp .ne 7, 3) := by decide +kernel
theorem dX10_isWord_63 : decode cX10_isWord 63 = .ok (.iconst 1, 1) := by decide +kernel
theorem dX10_isWord_64 : decode cX10_isWord 64 = .ok (.goto 4, 3) := by decide +kernel
theorem dX10_isWord_67 : decode cX10_isWord 67 = .ok (.iconst 0, 1) := by decide +kernel
theorem dX10_isWord_68 : decode cX10_isWord 68 = .ok (.istore_n 2, 1) := by decide +kernel
theorem dX10_isWord_69 : decode cX10_isWord 69 = .ok (.iinc 3 1, 3) := by decide +kernel
theorem dX10_isWord_72 : decode cX10_isWord 72 = .ok (.goto (-40), 3) := by decide +kernel
theorem dX10_isWord_75 : decode cX10_isWord 75 = .ok (.iload_n 2, 1) := by decide +kernel
theorem dX10_isWord_76 : decode cX10_isWord 76 = .ok (.ireturn, 1) := by decide +kernel
theorem dX10_isSign_0 : decode cX10_isSign 0 = .ok (.aload_n 0, 1) := by decide +kernel
theorem dX10_isSign_1 : decode cX10_isSign 1 = .ok (.getfield 116, 3) := by decide +kernel
theorem dX10_isSign_4 : decode cX10_isSign 4 = .ok (.iconst 3, 1) := by decide +kernel
theorem dX10_isSign_5 : decode cX10_isSign 5 = .ok (.if_icmp .ne 20, 3) := by decide +kernel
theorem dX10_isSign_8 : decode cX10_isSign 8 = .ok (.aload_n 0, 1) := by decide +kernel
theorem dX10_isSign_9 : decode cX10_isSign 9 = .ok (.getfield 19, 3) := by decide +kernel
theorem dX10_isSign_12 : decode cX10_isSign 12 = .ok (.aload_n 0, 1) := by decide +kernel
theorem dX10_isSign_13 : decode cX10_isSign 13 = .ok (.getfield 107, 3) := by decide +kernel
theorem dX10_isSign_16 : decode cX10_isSign 16 = .ok (.iaload, 1) := by decide +kernel
theorem dX10_isSign_17 : decode cX10_isSign 17 = .ok (.iload_n 1, 1) := by decide +kernel
theorem dX10_isSign_18 : decode cX10_isSign 18 = .ok (.if_icmp .ne 7, 3) := by decide +kernel
theorem dX10_isSign_21 : decode cX10_isSign 21 = .ok (.iconst 1, 1) := by decide +kernel
theorem dX10_isSign_22 : decode cX10_isSign 22 = .ok (.goto 4, 3) := by decide +kernel
theorem dX10_isSign_25 : decode cX10_isSign 25 = .ok (.iconst 0, 1) := by decide +kernel
theorem dX10_isSign_26 : decode cX10_isSign 26 = .ok (.ireturn, 1) := by decide +kernel
theorem dX10_faults_0 : decode cX10_faults 0 = .ok (.aload_n 0, 1) := by decide +kernel
theorem dX10_faults_1 : decode cX10_faults 1 = .ok (.getfield 141, 3) := by decide +kernel
theorem dX10_faults_4 : decode cX10_faults 4 = .ok (.ifCond .ne 21, 3) := by decide +kernel
theorem dX10_faults_7 : decode cX10_faults 7 = .ok (.aload_n 0, 1) := by decide +kernel
theorem dX10_faults_8 : decode cX10_faults 8 = .ok (.iconst 1, 1) := by decide +kernel
theorem dX10_faults_9 : decode cX10_faults 9 = .ok (.putfield 141, 3) := by decide +kernel
theorem dX10_faults_12 : decode cX10_faults 12 = .ok (.aload_n 0, 1) := by decide +kernel
theorem dX10_faults_13 : decode cX10_faults 13 = .ok (.iload_n 1, 1) := by decide +kernel
theorem dX10_faults_14 : decode cX10_faults 14 = .ok (.putfield 145, 3) := by decide +kernel
theorem dX10_faults_17 : decode cX10_faults 17 = .ok (.aload_n 0, 1) := by decide +kernel
theorem dX10_faults_18 : decode cX10_faults 18 = .ok (.aload_n 0, 1) := by decide +kernel
theorem dX10_faults_19 : decode cX10_faults 19 = .ok (.getfield 107, 3) := by decide +kernel
theorem dX10_faults_22 : decode cX10_faults 22 = .ok (.putfield 148, 3) := by decide +kernel
theorem dX10_faults_25 : decode cX10_faults 25 = .ok (.return_, 1) := by decide +kernel
theorem dX10_passes_0 : decode cX10_passes 0 = .ok (.iload_n 1, 1) := by decide +kernel
theorem dX10_passes_1 : decode cX10_passes 1 = .ok (.ifCond .ne 8, 3) := by decide +kernel
theorem dX10_passes_4 : decode cX10_passes 4 = .ok (.aload_n 0, 1) := by decide +kernel
theorem dX10_passes_5 : decode cX10_passes 5 = .ok (.iconst 1, 1) := by decide +kernel
theorem dX10_passes_6 : decode cX10_passes 6 = .ok (.invokevirtual 151, 3) := by decide +kernel
theorem dX10_passes_9 : decode cX10_passes 9 = .ok (.aload_n 0, 1) := by decide +kernel
theorem dX10_passes_10 : decode cX10_passes 10 = .ok (.getfield 141, 3) := by decide +kernel
theorem dX10_passes_13 : decode cX10_passes 13 = .ok (.ifCond .ne 7, 3) := by decide +kernel
theorem dX10_passes_16 : decode cX10_passes 16 = .ok (.aload_n 0, 1) := by decide +kernel
theorem dX10_passes_17 : decode cX10_passes 17 = .ok (.invokevirtual 155, 3) := by decide +kernel
theorem dX10_passes_20 : decode cX10_passes 20 = .ok (.return_, 1) := by decide +kernel
theorem dX10_reads_0 : decode cX10_reads 0 = .ok (.aload_n 0, 1) := by decide +kernel
theorem dX10_reads_1 : decode cX10_reads 1 = .ok (.getfield 110, 3) := by decide +kernel
theorem dX10_reads_4 : decode cX10_reads 4 = .ok (.istore_n 3, 1) := by decide +kernel
theorem dX10_reads_5 : decode cX10_reads 5 = .ok (.aload_n 0, 1) := by decide +kernel
theorem dX10_reads_6 : decode cX10_reads 6 = .ok (.getfield 116, 3) := by decide +kernel
theorem dX10_reads_9 : decode cX10_reads 9 = .ok (.iconst 2, 1) := by decide +kernel
theorem dX10_reads_10 : decode cX10_reads 10 = .ok (.if_icmp .eq 11, 3) := by decide +kernel
theorem dX10_reads_13 : decode cX10_reads 13 = .ok (.aload_n 0, 1) := by decide +kernel
theorem dX10_reads_14 : decode cX10_reads 14 = .ok (.iconst 1, 1) := by decide +kernel
theorem dX10_reads_15 : decode cX10_reads 15 = .ok (.invokevirtual 151, 3) := by decide +kernel
theorem dX10_reads_18 : decode cX10_reads 18 = .ok (.goto 20, 3) := by decide +kernel
theorem dX10_reads_21 : decode cX10_reads 21 = .ok (.iload_n 3, 1) := by decide +kernel
theorem dX10_reads_22 : decode cX10_reads 22 = .ok (.i2l, 1) := by decide +kernel
theorem dX10_reads_23 : decode cX10_reads 23 = .ok (.iload_n 1, 1) := by decide +kernel
theorem dX10_reads_24 : decode cX10_reads 24 = .ok (.i2l, 1) := by decide +kernel
theorem dX10_reads_25 : decode cX10_reads 25 = .ok (.iload_n 2, 1) := by decide +kernel
theorem dX10_reads_26 : decode cX10_reads 26 = .ok (.i2l, 1) := by decide +kernel
theorem dX10_reads_27 : decode cX10_reads 27 = .ok (.invokestatic 96, 3) := by decide +kernel
theorem dX10_reads_30 : decode cX10_reads 30 = .ok (.ifCond .ne 8, 3) := by decide +kernel
theorem dX10_reads_33 : decode cX10_reads 33 = .ok (.aload_n 0, 1) := by decide +kernel
theorem dX10_reads_34 : decode cX10_reads 34 = .ok (.iconst 2, 1) := by decide +kernel
theorem dX10_reads_35 : decode cX10_reads 35 = .ok (.invokevirtual 151, 3) := by decide +kernel
theorem dX10_reads_38 : decode cX10_reads 38 = .ok (.aload_n 0, 1) := by decide +kernel
theorem dX10_reads_39 : decode cX10_reads 39 = .ok (.iconst 1, 1) := by decide +kernel
theorem dX10_reads_40 : decode cX10_reads 40 = .ok (.invokevirtual 158, 3) := by decide +kernel
theorem dX10_reads_43 : decode cX10_reads 43 = .ok (.iload_n 3, 1) := by decide +kernel
theorem dX10_reads_44 : decode cX10_reads 44 = .ok (.ireturn, 1) := by decide +kernel
theorem dX10_named_0 : decode cX10_named 0 = .ok (.aload_n 0, 1) := by decide +kernel
theorem dX10_named_1 : decode cX10_named 1 = .ok (.aload_n 0, 1) := by decide +kernel
theorem dX10_named_2 : decode cX10_named 2 = .ok (.getfield 141, 3) := by decide +kernel
theorem dX10_named_5 : decode cX10_named 5 = .ok (.ifCond .ne 11, 3) := by decide +kernel
theorem dX10_named_8 : decode cX10_named 8 = .ok (.aload_n 0, 1) := by decide +kernel
theorem dX10_named_9 : decode cX10_named 9 = .ok (.aload_n 1, 1) := by decide +kernel
theorem dX10_named_10 : decode cX10_named 10 = .ok (.invokevirtual 162, 3) := by decide +kernel
theorem dX10_named_13 : decode cX10_named 13 = .ok (.ifCond .eq 7, 3) := by decide +kernel
theorem dX10_named_16 : decode cX10_named 16 = .ok (.iconst 1, 1) := by decide +kernel
theorem dX10_named_17 : decode cX10_named 17 = .ok (.goto 4, 3) := by decide +kernel
theorem dX10_named_20 : decode cX10_named 20 = .ok (.iconst 0, 1) := by decide +kernel
theorem dX10_named_21 : decode cX10_named 21 = .ok (.invokevirtual 158, 3) := by decide +kernel
theorem dX10_named_24 : decode cX10_named 24 = .ok (.aload_n 0, 1) := by decide +kernel
theorem dX10_named_25 : decode cX10_named 25 = .ok (.getfield 141, 3) := by decide +kernel
theorem dX10_named_28 : decode cX10_named 28 = .ok (.ifCond .eq 7, 3) := by decide +kernel
theorem dX10_named_31 : decode cX10_named 31 = .ok (.iconst 0, 1) := by decide +kernel
theorem dX10_named_32 : decode cX10_named 32 = .ok (.goto 9, 3) := by decide +kernel
theorem dX10_named_35 : decode cX10_named 35 = .ok (.aload_n 0, 1) := by decide +kernel
theorem dX10_named_36 : decode cX10_named 36 = .ok (.iload_n 2, 1) := by decide +kernel
theorem dX10_named_37 : decode cX10_named 37 = .ok (.iload_n 3, 1) := by decide +kernel
theorem dX10_named_38 : decode cX10_named 38 = .ok (.invokevirtual 166, 3) := by decide +kernel
theorem dX10_named_41 : decode cX10_named 41 = .ok (.ireturn, 1) := by decide +kernel
theorem dX10_readsDrum_0 : decode cX10_readsDrum 0 = .ok (.aload_n 0, 1) := by decide +kernel
theorem dX10_readsDrum_1 : decode cX10_readsDrum 1 = .ok (.aload_n 0, 1) := by decide +kernel
theorem dX10_readsDrum_2 : decode cX10_readsDrum 2 = .ok (.getfield 113, 3) := by decide +kernel
theorem dX10_readsDrum_5 : decode cX10_readsDrum 5 = .ok (.bipush 8, 2) := by decide +kernel
theorem dX10_readsDrum_7 : decode cX10_readsDrum 7 = .ok (.if_icmp .ne 7, 3) := by decide +kernel
theorem dX10_readsDrum_10 : decode cX10_readsDrum 10 = .ok (.iconst 1, 1) := by decide +kernel
theorem dX10_readsDrum_11 : decode cX10_readsDrum 11 = .ok (.goto 4, 3) := by decide +kernel
theorem dX10_readsDrum_14 : decode cX10_readsDrum 14 = .ok (.iconst 0, 1) := by decide +kernel
theorem dX10_readsDrum_15 : decode cX10_readsDrum 15 = .ok (.invokevirtual 158, 3) := by decide +kernel
theorem dX10_readsDrum_18 : decode cX10_readsDrum 18 = .ok (.aload_n 0, 1) := by decide +kernel
theorem dX10_readsDrum_19 : decode cX10_readsDrum 19 = .ok (.getfield 7, 3) := by decide +kernel
theorem dX10_readsDrum_22 : decode cX10_readsDrum 22 = .ok (.iconst 0, 1) := by decide +kernel
theorem dX10_readsDrum_23 : decode cX10_readsDrum 23 = .ok (.aload_n 0, 1) := by decide +kernel
theorem dX10_readsDrum_24 : decode cX10_readsDrum 24 = .ok (.ldc 169, 2) := by decide +kernel
theorem dX10_readsDrum_26 : decode cX10_readsDrum 26 = .ok (.iconst 1, 1) := by decide +kernel
theorem dX10_readsDrum_27 : decode cX10_readsDrum 27 = .ok (.iconst 4, 1) := by decide +kernel
theorem dX10_readsDrum_28 : decode cX10_readsDrum 28 = .ok (.invokevirtual 171, 3) := by decide +kernel
theorem dX10_readsDrum_31 : decode cX10_readsDrum 31 = .ok (.iastore, 1) := by decide +kernel
theorem dX10_readsDrum_32 : decode cX10_readsDrum 32 = .ok (.aload_n 0, 1) := by decide +kernel
theorem dX10_readsDrum_33 : decode cX10_readsDrum 33 = .ok (.getfield 7, 3) := by decide +kernel
theorem dX10_readsDrum_36 : decode cX10_readsDrum 36 = .ok (.iconst 1, 1) := by decide +kernel
theorem dX10_readsDrum_37 : decode cX10_readsDrum 37 = .ok (.aload_n 0, 1) := by decide +kernel
theorem dX10_readsDrum_38 : decode cX10_readsDrum 38 = .ok (.ldc 175, 2) := by decide +kernel
theorem dX10_readsDrum_40 : decode cX10_readsDrum 40 = .ok (.iconst 2, 1) := by decide +kernel
theorem dX10_readsDrum_41 : decode cX10_readsDrum 41 = .ok (.bipush 12, 2) := by decide +kernel
theorem dX10_readsDrum_43 : decode cX10_readsDrum 43 = .ok (.invokevirtual 171, 3) := by decide +kernel
theorem dX10_readsDrum_46 : decode cX10_readsDrum 46 = .ok (.iastore, 1) := by decide +kernel
theorem dX10_readsDrum_47 : decode cX10_readsDrum 47 = .ok (.aload_n 0, 1) := by decide +kernel
theorem dX10_readsDrum_48 : decode cX10_readsDrum 48 = .ok (.getfield 7, 3) := by decide +kernel
theorem dX10_readsDrum_51 : decode cX10_readsDrum 51 = .ok (.iconst 2, 1) := by decide +kernel
theorem dX10_readsDrum_52 : decode cX10_readsDrum 52 = .ok (.aload_n 0, 1) := by decide +kernel
theorem dX10_readsDrum_53 : decode cX10_readsDrum 53 = .ok (.ldc 177, 2) := by decide +kernel
theorem dX10_readsDrum_55 : decode cX10_readsDrum 55 = .ok (.iconst 0, 1) := by decide +kernel
theorem dX10_readsDrum_56 : decode cX10_readsDrum 56 = .ok (.bipush 9, 2) := by decide +kernel
theorem dX10_readsDrum_58 : decode cX10_readsDrum 58 = .ok (.invokevirtual 171, 3) := by decide +kernel
theorem dX10_readsDrum_61 : decode cX10_readsDrum 61 = .ok (.iastore, 1) := by decide +kernel
theorem dX10_readsDrum_62 : decode cX10_readsDrum 62 = .ok (.aload_n 0, 1) := by decide +kernel
theorem dX10_readsDrum_63 : decode cX10_readsDrum 63 = .ok (.aload_n 0, 1) := by decide +kernel
theorem dX10_readsDrum_64 : decode cX10_readsDrum 64 = .ok (.getfield 141, 3) := by decide +kernel
theorem dX10_readsDrum_67 : decode cX10_readsDrum 67 = .ok (.ifCond .ne 12, 3) := by decide +kernel
theorem dX10_readsDrum_70 : decode cX10_readsDrum 70 = .ok (.aload_n 0, 1) := by decide +kernel
theorem dX10_readsDrum_71 : decode cX10_readsDrum 71 = .ok (.ldc 179, 2) := by decide +kernel
theorem dX10_readsDrum_73 : decode cX10_readsDrum 73 = .ok (.invokevirtual 162, 3) := by decide +kernel
theorem dX10_readsDrum_76 : decode cX10_readsDrum 76 = .ok (.ifCond .eq 7, 3) := by decide +kernel
theorem dX10_readsDrum_79 : decode cX10_readsDrum 79 = .ok (.iconst 1, 1) := by decide +kernel
theorem dX10_readsDrum_80 : decode cX10_readsDrum 80 = .ok (.goto 4, 3) := by decide +kernel
theorem dX10_readsDrum_83 : decode cX10_readsDrum 83 = .ok (.iconst 0, 1) := by decide +kernel
theorem dX10_readsDrum_84 : decode cX10_readsDrum 84 = .ok (.invokevirtual 158, 3) := by decide +kernel
theorem dX10_readsDrum_87 : decode cX10_readsDrum 87 = .ok (.aload_n 0, 1) := by decide +kernel
theorem dX10_readsDrum_88 : decode cX10_readsDrum 88 = .ok (.getfield 141, 3) := by decide +kernel
theorem dX10_readsDrum_91 : decode cX10_readsDrum 91 = .ok (.ifCond .ne 27, 3) := by decide +kernel
theorem dX10_readsDrum_94 : decode cX10_readsDrum 94 = .ok (.aload_n 0, 1) := by decide +kernel
theorem dX10_readsDrum_95 : decode cX10_readsDrum 95 = .ok (.getfield 116, 3) := by decide +kernel
theorem dX10_readsDrum_98 : decode cX10_readsDrum 98 = .ok (.iconst 2, 1) := by decide +kernel
theorem dX10_readsDrum_99 : decode cX10_readsDrum 99 = .ok (.if_icmp .ne 19, 3) := by decide +kernel
theorem dX10_readsDrum_102 : decode cX10_readsDrum 102 = .ok (.aload_n 0, 1) := by decide +kernel
theorem dX10_readsDrum_103 : decode cX10_readsDrum 103 = .ok (.aload_n 0, 1) := by decide +kernel
theorem dX10_readsDrum_104 : decode cX10_readsDrum 104 = .ok (.getfield 110, 3) := by decide +kernel
theorem dX10_readsDrum_107 : decode cX10_readsDrum 107 = .ok (.invokevirtual 181, 3) := by decide +kernel
theorem dX10_readsDrum_110 : decode cX10_readsDrum 110 = .ok (.ifCond .ne 8, 3) := by decide +kernel
theorem dX10_readsDrum_113 : decode cX10_readsDrum 113 = .ok (.aload_n 0, 1) := by decide +kernel
theorem dX10_readsDrum_114 : decode cX10_readsDrum 114 = .ok (.iconst 2, 1) := by decide +kernel
theorem dX10_readsDrum_115 : decode cX10_readsDrum 115 = .ok (.invokevirtual 151, 3) := by decide +kernel
theorem dX10_readsDrum_118 : decode cX10_readsDrum 118 = .ok (.aload_n 0, 1) := by decide +kernel
theorem dX10_readsDrum_119 : decode cX10_readsDrum 119 = .ok (.getfield 7, 3) := by decide +kernel
theorem dX10_readsDrum_122 : decode cX10_readsDrum 122 = .ok (.iconst 3, 1) := by decide +kernel
theorem dX10_readsDrum_123 : decode cX10_readsDrum 123 = .ok (.aload_n 0, 1) := by decide +kernel
theorem dX10_readsDrum_124 : decode cX10_readsDrum 124 = .ok (.getfield 141, 3) := by decide +kernel
theorem dX10_readsDrum_127 : decode cX10_readsDrum 127 = .ok (.ifCond .eq 7, 3) := by decide +kernel
theorem dX10_readsDrum_130 : decode cX10_readsDrum 130 = .ok (.iconst 0, 1) := by decide +kernel
theorem dX10_readsDrum_131 : decode cX10_readsDrum 131 = .ok (.goto 10, 3) := by decide +kernel
theorem dX10_readsDrum_134 : decode cX10_readsDrum 134 = .ok (.aload_n 0, 1) := by decide +kernel
theorem dX10_readsDrum_135 : decode cX10_readsDrum 135 = .ok (.iconst 0, 1) := by decide +kernel
theorem dX10_readsDrum_136 : decode cX10_readsDrum 136 = .ok (.bipush 12, 2) := by decide +kernel
theorem dX10_readsDrum_138 : decode cX10_readsDrum 138 = .ok (.invokevirtual 166, 3) := by decide +kernel
theorem dX10_readsDrum_141 : decode cX10_readsDrum 141 = .ok (.iastore, 1) := by decide +kernel
theorem dX10_readsDrum_142 : decode cX10_readsDrum 142 = .ok (.aload_n 0, 1) := by decide +kernel
theorem dX10_readsDrum_143 : decode cX10_readsDrum 143 = .ok (.getfield 7, 3) := by decide +kernel
theorem dX10_readsDrum_146 : decode cX10_readsDrum 146 = .ok (.iconst 4, 1) := by decide +kernel
theorem dX10_readsDrum_147 : decode cX10_readsDrum 147 = .ok (.aload_n 0, 1) := by decide +kernel
theorem dX10_readsDrum_148 : decode cX10_readsDrum 148 = .ok (.ldc 185, 2) := by decide +kernel
theorem dX10_readsDrum_150 : decode cX10_readsDrum 150 = .ok (.iconst 0, 1) := by decide +kernel
theorem dX10_readsDrum_151 : decode cX10_readsDrum 151 = .ok (.bipush 9, 2) := by decide +kernel
theorem dX10_readsDrum_153 : decode cX10_readsDrum 153 = .ok (.invokevirtual 171, 3) := by decide +kernel
theorem dX10_readsDrum_156 : decode cX10_readsDrum 156 = .ok (.iastore, 1) := by decide +kernel
theorem dX10_readsDrum_157 : decode cX10_readsDrum 157 = .ok (.return_, 1) := by decide +kernel
theorem dX10_isQuick_0 : decode cX10_isQuick 0 = .ok (.iload_n 1, 1) := by decide +kernel
theorem dX10_isQuick_1 : decode cX10_isQuick 1 = .ok (.ifCond .eq 32, 3) := by decide +kernel
theorem dX10_isQuick_4 : decode cX10_isQuick 4 = .ok (.iload_n 1, 1) := by decide +kernel
theorem dX10_isQuick_5 : decode cX10_isQuick 5 = .ok (.i2l, 1) := by decide +kernel
theorem dX10_isQuick_6 : decode cX10_isQuick 6 = .ok (.lconst 1, 1) := by decide +kernel
theorem dX10_isQuick_7 : decode cX10_isQuick 7 = .ok (.aload_n 0, 1) := by decide +kernel
theorem dX10_isQuick_8 : decode cX10_isQuick 8 = .ok (.getfield 7, 3) := by decide +kernel
theorem dX10_isQuick_11 : decode cX10_isQuick 11 = .ok (.iconst 1, 1) := by decide +kernel
theorem dX10_isQuick_12 : decode cX10_isQuick 12 = .ok (.iaload, 1) := by decide +kernel
theorem dX10_isQuick_13 : decode cX10_isQuick 13 = .ok (.iconst 1, 1) := by decide +kernel
theorem dX10_isQuick_14 : decode cX10_isQuick 14 = .ok (.isub, 1) := by decide +kernel
theorem dX10_isQuick_15 : decode cX10_isQuick 15 = .ok (.i2l, 1) := by decide +kernel
theorem dX10_isQuick_16 : decode cX10_isQuick 16 = .ok (.invokestatic 96, 3) := by decide +kernel
theorem dX10_isQuick_19 : decode cX10_isQuick 19 = .ok (.ifCond .eq 18, 3) := by decide +kernel
theorem dX10_isQuick_22 : decode cX10_isQuick 22 = .ok (.aload_n 0, 1) := by decide +kernel
theorem dX10_isQuick_23 : decode cX10_isQuick 23 = .ok (.getfield 7, 3) := by decide +kernel
theorem dX10_isQuick_26 : decode cX10_isQuick 26 = .ok (.iconst 1, 1) := by decide +kernel
theorem dX10_isQuick_27 : decode cX10_isQuick 27 = .ok (.iaload, 1) := by decide +kernel
theorem dX10_isQuick_28 : decode cX10_isQuick 28 = .ok (.iload_n 1, 1) := by decide +kernel
theorem dX10_isQuick_29 : decode cX10_isQuick 29 = .ok (.irem, 1) := by decide +kernel
theorem dX10_isQuick_30 : decode cX10_isQuick 30 = .ok (.ifCond .ne 7, 3) := by decide +kernel
theorem dX10_isQuick_33 : decode cX10_isQuick 33 = .ok (.iconst 1, 1) := by decide +kernel
theorem dX10_isQuick_34 : decode cX10_isQuick 34 = .ok (.goto 4, 3) := by decide +kernel
theorem dX10_isQuick_37 : decode cX10_isQuick 37 = .ok (.iconst 0, 1) := by decide +kernel
theorem dX10_isQuick_38 : decode cX10_isQuick 38 = .ok (.ireturn, 1) := by decide +kernel
theorem dX10_isAlike_0 : decode cX10_isAlike 0 = .ok (.iload_n 2, 1) := by decide +kernel
theorem dX10_isAlike_1 : decode cX10_isAlike 1 = .ok (.iload 4, 2) := by decide +kernel
theorem dX10_isAlike_3 : decode cX10_isAlike 3 = .ok (.if_icmp .ne 7, 3) := by decide +kernel
theorem dX10_isAlike_6 : decode cX10_isAlike 6 = .ok (.iconst 1, 1) := by decide +kernel
theorem dX10_isAlike_7 : decode cX10_isAlike 7 = .ok (.goto 4, 3) := by decide +kernel
theorem dX10_isAlike_10 : decode cX10_isAlike 10 = .ok (.iconst 0, 1) := by decide +kernel
theorem dX10_isAlike_11 : decode cX10_isAlike 11 = .ok (.istore 5, 2) := by decide +kernel
theorem dX10_isAlike_13 : decode cX10_isAlike 13 = .ok (.iconst 0, 1) := by decide +kernel
theorem dX10_isAlike_14 : decode cX10_isAlike 14 = .ok (.istore 6, 2) := by decide +kernel
theorem dX10_isAlike_16 : decode cX10_isAlike 16 = .ok (.iload 6, 2) := by decide +kernel
theorem dX10_isAlike_18 : decode cX10_isAlike 18 = .ok (.iload_n 2, 1) := by decide +kernel
theorem dX10_isAlike_19 : decode cX10_isAlike 19 = .ok (.if_icmp .ge 42, 3) := by decide +kernel
theorem dX10_isAlike_22 : decode cX10_isAlike 22 = .ok (.iload 5, 2) := by decide +kernel
theorem dX10_isAlike_24 : decode cX10_isAlike 24 = .ok (.ifCond .eq 37, 3) := by decide +kernel
theorem dX10_isAlike_27 : decode cX10_isAlike 27 = .ok (.aload_n 0, 1) := by decide +kernel
theorem dX10_isAlike_28 : decode cX10_isAlike 28 = .ok (.getfield 19, 3) := by decide +kernel
theorem dX10_isAlike_31 : decode cX10_isAlike 31 = .ok (.iload_n 1, 1) := by decide +kernel
theorem dX10_isAlike_32 : decode cX10_isAlike 32 = .ok (.iload 6, 2) := by decide +kernel
theorem dX10_isAlike_34 : decode cX10_isAlike 34 = .ok (.iadd, 1) := by decide +kernel
theorem dX10_isAlike_35 : decode cX10_isAlike 35 = .ok (.iaload, 1) := by decide +kernel
theorem dX10_isAlike_36 : decode cX10_isAlike 36 = .ok (.aload_n 0, 1) := by decide +kernel
theorem dX10_isAlike_37 : decode cX10_isAlike 37 = .ok (.getfield 19, 3) := by decide +kernel
theorem dX10_isAlike_40 : decode cX10_isAlike 40 = .ok (.iload_n 3, 1) := by decide +kernel
theorem dX10_isAlike_41 : decode cX10_isAlike 41 = .ok (.iload 6, 2) := by decide +kernel
theorem dX10_isAlike_43 : decode cX10_isAlike 43 = .ok (.iadd, 1) := by decide +kernel
theorem dX10_isAlike_44 : decode cX10_isAlike 44 = .ok (.iaload, 1) := by decide +kernel
theorem dX10_isAlike_45 : decode cX10_isAlike 45 = .ok (.if_icmp .ne 7, 3) := by decide +kernel
theorem dX10_isAlike_48 : decode cX10_isAlike 48 = .ok (.iconst 1, 1) := by decide +kernel
theorem dX10_isAlike_49 : decode cX10_isAlike 49 = .ok (.goto 4, 3) := by decide +kernel
theorem dX10_isAlike_52 : decode cX10_isAlike 52 = .ok (.iconst 0, 1) := by decide +kernel
theorem dX10_isAlike_53 : decode cX10_isAlike 53 = .ok (.istore 5, 2) := by decide +kernel
theorem dX10_isAlike_55 : decode cX10_isAlike 55 = .ok (.iinc 6 1, 3) := by decide +kernel
theorem dX10_isAlike_58 : decode cX10_isAlike 58 = .ok (.goto (-42), 3) := by decide +kernel
theorem dX10_isAlike_61 : decode cX10_isAlike 61 = .ok (.iload 5, 2) := by decide +kernel
theorem dX10_isAlike_63 : decode cX10_isAlike 63 = .ok (.ireturn, 1) := by decide +kernel
theorem dX10_itemNamed_0 : decode cX10_itemNamed 0 = .ok (.iconst 0, 1) := by decide +kernel
theorem dX10_itemNamed_1 : decode cX10_itemNamed 1 = .ok (.istore_n 3, 1) := by decide +kernel
theorem dX10_itemNamed_2 : decode cX10_itemNamed 2 = .ok (.iload_n 3, 1) := by decide +kernel
theorem dX10_itemNamed_3 : decode cX10_itemNamed 3 = .ok (.aload_n 0, 1) := by decide +kernel
theorem dX10_itemNamed_4 : decode cX10_itemNamed 4 = .ok (.getfield 7, 3) := by decide +kernel
theorem dX10_itemNamed_7 : decode cX10_itemNamed 7 = .ok (.iconst 5, 1) := by decide +kernel
theorem dX10_itemNamed_8 : decode cX10_itemNamed 8 = .ok (.iaload, 1) := by decide +kernel
theorem dX10_itemNamed_9 : decode cX10_itemNamed 9 = .ok (.if_icmp .ge 32, 3) := by decide +kernel
theorem dX10_itemNamed_12 : decode cX10_itemNamed 12 = .ok (.aload_n 0, 1) := by decide +kernel
theorem dX10_itemNamed_13 : decode cX10_itemNamed 13 = .ok (.aload_n 0, 1) := by decide +kernel
theorem dX10_itemNamed_14 : decode cX10_itemNamed 14 = .ok (.getfield 26, 3) := by decide +kernel
theorem dX10_itemNamed_17 : decode cX10_itemNamed 17 = .ok (.iload_n 3, 1) := by decide +kernel
theorem dX10_itemNamed_18 : decode cX10_itemNamed 18 = .ok (.iaload, 1) := by decide +kernel
theorem dX10_itemNamed_19 : decode cX10_itemNamed 19 = .ok (.aload_n 0, 1) := by decide +kernel
theorem dX10_itemNamed_20 : decode cX10_itemNamed 20 = .ok (.getfield 29, 3) := by decide +kernel
theorem dX10_itemNamed_23 : decode cX10_itemNamed 23 = .ok (.iload_n 3, 1) := by decide +kernel
theorem dX10_itemNamed_24 : decode cX10_itemNamed 24 = .ok (.iaload, 1) := by decide +kernel
theorem dX10_itemNamed_25 : decode cX10_itemNamed 25 = .ok (.iload_n 1, 1) := by decide +kernel
theorem dX10_itemNamed_26 : decode cX10_itemNamed 26 = .ok (.iload_n 2, 1) := by decide +kernel
theorem dX10_itemNamed_27 : decode cX10_itemNamed 27 = .ok (.invokevirtual 187, 3) := by decide +kernel
theorem dX10_itemNamed_30 : decode cX10_itemNamed 30 = .ok (.ifCond .eq 5, 3) := by decide +kernel
theorem dX10_itemNamed_33 : decode cX10_itemNamed 33 = .ok (.iload_n 3, 1) := by decide +kernel
theorem dX10_itemNamed_34 : decode cX10_itemNamed 34 = .ok (.ireturn, 1) := by decide +kernel
theorem dX10_itemNamed_35 : decode cX10_itemNamed 35 = .ok (.iinc 3 1, 3) := by decide +kernel
theorem dX10_itemNamed_38 : decode cX10_itemNamed 38 = .ok (.goto (-36), 3) := by decide +kernel
theorem dX10_itemNamed_41 : decode cX10_itemNamed 41 = .ok (.iconst (-1), 1) := by decide +kernel
theorem dX10_itemNamed_42 : decode cX10_itemNamed 42 = .ok (.ireturn, 1) := by decide +kernel
theorem dX10_readsName_0 : decode cX10_readsName 0 = .ok (.aload_n 0, 1) := by decide +kernel
theorem dX10_readsName_1 : decode cX10_readsName 1 = .ok (.getfield 116, 3) := by decide +kernel
theorem dX10_readsName_4 : decode cX10_readsName 4 = .ok (.iconst 1, 1) := by decide +kernel
theorem dX10_readsName_5 : decode cX10_readsName 5 = .ok (.if_icmp .ne 51, 3) := by decide +kernel
theorem dX10_readsName_8 : decode cX10_readsName 8 = .ok (.aload_n 0, 1) := by decide +kernel
theorem dX10_readsName_9 : decode cX10_readsName 9 = .ok (.getfield 100, 3) := by decide +kernel
theorem dX10_readsName_12 : decode cX10_readsName 12 = .ok (.aload_n 0, 1) := by decide +kernel
theorem dX10_readsName_13 : decode cX10_readsName 13 = .ok (.getfield 107, 3) := by decide +kernel
theorem dX10_readsName_16 : decode cX10_readsName 16 = .ok (.isub, 1) := by decide +kernel
theorem dX10_readsName_17 : decode cX10_readsName 17 = .ok (.bipush 6, 2) := by decide +kernel
theorem dX10_readsName_19 : decode cX10_readsName 19 = .ok (.if_icmp .gt 32, 3) := by decide +kernel
theorem dX10_readsName_22 : decode cX10_readsName 22 = .ok (.aload_n 0, 1) := by decide +kernel
theorem dX10_readsName_23 : decode cX10_readsName 23 = .ok (.getfield 113, 3) := by decide +kernel
theorem dX10_readsName_26 : decode cX10_readsName 26 = .ok (.iconst (-1), 1) := by decide +kernel
theorem dX10_readsName_27 : decode cX10_readsName 27 = .ok (.if_icmp .ne 24, 3) := by decide +kernel
theorem dX10_readsName_30 : decode cX10_readsName 30 = .ok (.aload_n 0, 1) := by decide +kernel
theorem dX10_readsName_31 : decode cX10_readsName 31 = .ok (.aload_n 0, 1) := by decide +kernel
theorem dX10_readsName_32 : decode cX10_readsName 32 = .ok (.getfield 107, 3) := by decide +kernel
theorem dX10_readsName_35 : decode cX10_readsName 35 = .ok (.aload_n 0, 1) := by decide +kernel
theorem dX10_readsName_36 : decode cX10_readsName 36 = .ok (.getfield 100, 3) := by decide +kernel
theorem dX10_readsName_39 : decode cX10_readsName 39 = .ok (.aload_n 0, 1) := by decide +kernel
theorem dX10_readsName_40 : decode cX10_readsName 40 = .ok (.getfield 107, 3) := by decide +kernel
theorem dX10_readsName_43 : decode cX10_readsName 43 = .ok (.isub, 1) := by decide +kernel
theorem dX10_readsName_44 : decode cX10_readsName 44 = .ok (.invokevirtual 191, 3) := by decide +kernel
theorem dX10_readsName_47 : decode cX10_readsName 47 = .ok (.iconst (-1), 1) := by decide +kernel
theorem dX10_readsName_48 : decode cX10_readsName 48 = .ok (.if_icmp .eq 8, 3) := by decide +kernel
theorem dX10_readsName_51 : decode cX10_readsName 51 = .ok (.aload_n 0, 1) := by decide +kernel
theorem dX10_readsName_52 : decode cX10_readsName 52 = .ok (.iconst 2, 1) := by decide +kernel
theorem dX10_readsName_53 : decode cX10_readsName 53 = .ok (.invokevirtual 151, 3) := by decide +kernel
theorem dX10_readsName_56 : decode cX10_readsName 56 = .ok (.aload_n 0, 1) := by decide +kernel
theorem dX10_readsName_57 : decode cX10_readsName 57 = .ok (.getfield 26, 3) := by decide +kernel
theorem dX10_readsName_60 : decode cX10_readsName 60 = .ok (.aload_n 0, 1) := by decide +kernel
theorem dX10_readsName_61 : decode cX10_readsName 61 = .ok (.getfield 7, 3) := by decide +kernel
theorem dX10_readsName_64 : decode cX10_readsName 64 = .ok (.iconst 5, 1) := by decide +kernel
theorem dX10_readsName_65 : decode cX10_readsName 65 = .ok (.iaload, 1) := by decide +kernel
theorem dX10_readsName_66 : decode cX10_readsName 66 = .ok (.aload_n 0, 1) := by decide +kernel
theorem dX10_readsName_67 : decode cX10_readsName 67 = .ok (.getfield 107, 3) := by decide +kernel
theorem dX10_readsName_70 : decode cX10_readsName 70 = .ok (.iastore, 1) := by decide +kernel
theorem dX10_readsName_71 : decode cX10_readsName 71 = .ok (.aload_n 0, 1) := by decide +kernel
theorem dX10_readsName_72 : decode cX10_readsName 72 = .ok (.getfield 29, 3) := by decide +kernel
theorem dX10_readsName_75 : decode cX10_readsName 75 = .ok (.aload_n 0, 1) := by decide +kernel
theorem dX10_readsName_76 : decode cX10_readsName 76 = .ok (.getfield 7, 3) := by decide +kernel
theorem dX10_readsName_79 : decode cX10_readsName 79 = .ok (.iconst 5, 1) := by decide +kernel
theorem dX10_readsName_80 : decode cX10_readsName 80 = .ok (.iaload, 1) := by decide +kernel
theorem dX10_readsName_81 : decode cX10_readsName 81 = .ok (.aload_n 0, 1) := by decide +kernel
theorem dX10_readsName_82 : decode cX10_readsName 82 = .ok (.getfield 100, 3) := by decide +kernel
theorem dX10_readsName_85 : decode cX10_readsName 85 = .ok (.aload_n 0, 1) := by decide +kernel
theorem dX10_readsName_86 : decode cX10_readsName 86 = .ok (.getfield 107, 3) := by decide +kernel
theorem dX10_readsName_89 : decode cX10_readsName 89 = .ok (.isub, 1) := by decide +kernel
theorem dX10_readsName_90 : decode cX10_readsName 90 = .ok (.iastore, 1) := by decide +kernel
theorem dX10_readsName_91 : decode cX10_readsName 91 = .ok (.aload_n 0, 1) := by decide +kernel
theorem dX10_readsName_92 : decode cX10_readsName 92 = .ok (.aload_n 0, 1) := by decide +kernel
theorem dX10_readsName_93 : decode cX10_readsName 93 = .ok (.getfield 116, 3) := by decide +kernel
theorem dX10_readsName_96 : decode cX10_readsName 96 = .ok (.iconst 1, 1) := by decide +kernel
theorem dX10_readsName_97 : decode cX10_readsName 97 = .ok (.if_icmp .ne 7, 3) := by decide +kernel
theorem dX10_readsName_100 : decode cX10_readsName 100 = .ok (.iconst 1, 1) := by decide +kernel
theorem dX10_readsName_101 : decode cX10_readsName 101 = .ok (.goto 4, 3) := by decide +kernel
theorem dX10_readsName_104 : decode cX10_readsName 104 = .ok (.iconst 0, 1) := by decide +kernel
theorem dX10_readsName_105 : decode cX10_readsName 105 = .ok (.invokevirtual 158, 3) := by decide +kernel
theorem dX10_readsName_108 : decode cX10_readsName 108 = .ok (.return_, 1) := by decide +kernel
theorem dX10_readsRef_0 : decode cX10_readsRef 0 = .ok (.aload_n 0, 1) := by decide +kernel
theorem dX10_readsRef_1 : decode cX10_readsRef 1 = .ok (.getfield 141, 3) := by decide +kernel
theorem dX10_readsRef_4 : decode cX10_readsRef 4 = .ok (.ifCond .ne 77, 3) := by decide +kernel
theorem dX10_readsRef_7 : decode cX10_readsRef 7 = .ok (.aload_n 0, 1) := by decide +kernel
theorem dX10_readsRef_8 : decode cX10_readsRef 8 = .ok (.getfield 116, 3) := by decide +kernel
theorem dX10_readsRef_11 : decode cX10_readsRef 11 = .ok (.iconst 1, 1) := by decide +kernel
theorem dX10_readsRef_12 : decode cX10_readsRef 12 = .ok (.if_icmp .ne 69, 3) := by decide +kernel
theorem dX10_readsRef_15 : decode cX10_readsRef 15 = .ok (.aload_n 0, 1) := by decide +kernel
theorem dX10_readsRef_16 : decode cX10_readsRef 16 = .ok (.getfield 32, 3) := by decide +kernel
theorem dX10_readsRef_19 : decode cX10_readsRef 19 = .ok (.aload_n 0, 1) := by decide +kernel
theorem dX10_readsRef_20 : decode cX10_readsRef 20 = .ok (.getfield 194, 3) := by decide +kernel
theorem dX10_readsRef_23 : decode cX10_readsRef 23 = .ok (.aload_n 0, 1) := by decide +kernel
theorem dX10_readsRef_24 : decode cX10_readsRef 24 = .ok (.getfield 107, 3) := by decide +kernel
theorem dX10_readsRef_27 : decode cX10_readsRef 27 = .ok (.iastore, 1) := by decide +kernel
theorem dX10_readsRef_28 : decode cX10_readsRef 28 = .ok (.aload_n 0, 1) := by decide +kernel
theorem dX10_readsRef_29 : decode cX10_readsRef 29 = .ok (.getfield 35, 3) := by decide +kernel
theorem dX10_readsRef_32 : decode cX10_readsRef 32 = .ok (.aload_n 0, 1) := by decide +kernel
theorem dX10_readsRef_33 : decode cX10_readsRef 33 = .ok (.getfield 194, 3) := by decide +kernel
theorem dX10_readsRef_36 : decode cX10_readsRef 36 = .ok (.aload_n 0, 1) := by decide +kernel
theorem dX10_readsRef_37 : decode cX10_readsRef 37 = .ok (.getfield 100, 3) := by decide +kernel
theorem dX10_readsRef_40 : decode cX10_readsRef 40 = .ok (.aload_n 0, 1) := by decide +kernel
theorem dX10_readsRef_41 : decode cX10_readsRef 41 = .ok (.getfield 107, 3) := by decide +kernel
theorem dX10_readsRef_44 : decode cX10_readsRef 44 = .ok (.isub, 1) := by decide +kernel
theorem dX10_readsRef_45 : decode cX10_readsRef 45 = .ok (.iastore, 1) := by decide +kernel
theorem dX10_readsRef_46 : decode cX10_readsRef 46 = .ok (.aload_n 0, 1) := by decide +kernel
theorem dX10_readsRef_47 : decode cX10_readsRef 47 = .ok (.getfield 38, 3) := by decide +kernel
theorem dX10_readsRef_50 : decode cX10_readsRef 50 = .ok (.aload_n 0, 1) := by decide +kernel
theorem dX10_readsRef_51 : decode cX10_readsRef 51 = .ok (.getfield 194, 3) := by decide +kernel
theorem dX10_readsRef_54 : decode cX10_readsRef 54 = .ok (.aload_n 0, 1) := by decide +kernel
theorem dX10_readsRef_55 : decode cX10_readsRef 55 = .ok (.getfield 7, 3) := by decide +kernel
theorem dX10_readsRef_58 : decode cX10_readsRef 58 = .ok (.iconst 5, 1) := by decide +kernel
theorem dX10_readsRef_59 : decode cX10_readsRef 59 = .ok (.iaload, 1) := by decide +kernel
theorem dX10_readsRef_60 : decode cX10_readsRef 60 = .ok (.iastore, 1) := by decide +kernel
theorem dX10_readsRef_61 : decode cX10_readsRef 61 = .ok (.aload_n 0, 1) := by decide +kernel
theorem dX10_readsRef_62 : decode cX10_readsRef 62 = .ok (.getfield 41, 3) := by decide +kernel
theorem dX10_readsRef_65 : decode cX10_readsRef 65 = .ok (.aload_n 0, 1) := by decide +kernel
theorem dX10_readsRef_66 : decode cX10_readsRef 66 = .ok (.getfield 194, 3) := by decide +kernel
theorem dX10_readsRef_69 : decode cX10_readsRef 69 = .ok (.iload_n 1, 1) := by decide +kernel
theorem dX10_readsRef_70 : decode cX10_readsRef 70 = .ok (.bastore, 1) := by decide +kernel
theorem dX10_readsRef_71 : decode cX10_readsRef 71 = .ok (.aload_n 0, 1) := by decide +kernel
theorem dX10_readsRef_72 : decode cX10_readsRef 72 = .ok (.dup, 1) := by decide +kernel
theorem dX10_readsRef_73 : decode cX10_readsRef 73 = .ok (.getfield 194, 3) := by decide +kernel
theorem dX10_readsRef_76 : decode cX10_readsRef 76 = .ok (.iconst 1, 1) := by decide +kernel
theorem dX10_readsRef_77 : decode cX10_readsRef 77 = .ok (.iadd, 1) := by decide +kernel
theorem dX10_readsRef_78 : decode cX10_readsRef 78 = .ok (.putfield 194, 3) := by decide +kernel
theorem dX10_readsRef_81 : decode cX10_readsRef 81 = .ok (.aload_n 0, 1) := by decide +kernel
theorem dX10_readsRef_82 : decode cX10_readsRef 82 = .ok (.aload_n 0, 1) := by decide +kernel
theorem dX10_readsRef_83 : decode cX10_readsRef 83 = .ok (.getfield 141, 3) := by decide +kernel
theorem dX10_readsRef_86 : decode cX10_readsRef 86 = .ok (.ifCond .ne 11, 3) := by decide +kernel
theorem dX10_readsRef_89 : decode cX10_readsRef 89 = .ok (.aload_n 0, 1) := by decide +kernel
theorem dX10_readsRef_90 : decode cX10_readsRef 90 = .ok (.getfield 116, 3) := by decide +kernel
theorem dX10_readsRef_93 : decode cX10_readsRef 93 = .ok (.iconst 1, 1) := by decide +kernel
theorem dX10_readsRef_94 : decode cX10_readsRef 94 = .ok (.if_icmp .ne 7, 3) := by decide +kernel
theorem dX10_readsRef_97 : decode cX10_readsRef 97 = .ok (.iconst 1, 1) := by decide +kernel
theorem dX10_readsRef_98 : decode cX10_readsRef 98 = .ok (.goto 4, 3) := by decide +kernel
theorem dX10_readsRef_101 : decode cX10_readsRef 101 = .ok (.iconst 0, 1) := by decide +kernel
theorem dX10_readsRef_102 : decode cX10_readsRef 102 = .ok (.invokevirtual 158, 3) := by decide +kernel
theorem dX10_readsRef_105 : decode cX10_readsRef 105 = .ok (.return_, 1) := by decide +kernel
theorem dX10_readsOp_0 : decode cX10_readsOp 0 = .ok (.aload_n 0, 1) := by decide +kernel
theorem dX10_readsOp_1 : decode cX10_readsOp 1 = .ok (.getfield 113, 3) := by decide +kernel
theorem dX10_readsOp_4 : decode cX10_readsOp 4 = .ok (.istore_n 1, 1) := by decide +kernel
theorem dX10_readsOp_5 : decode cX10_readsOp 5 = .ok (.aload_n 0, 1) := by decide +kernel
theorem dX10_readsOp_6 : decode cX10_readsOp 6 = .ok (.iload_n 1, 1) := by decide +kernel
theorem dX10_readsOp_7 : decode cX10_readsOp 7 = .ok (.i2l, 1) := by decide +kernel
theorem dX10_readsOp_8 : decode cX10_readsOp 8 = .ok (.lconst 0, 1) := by decide +kernel
theorem dX10_readsOp_9 : decode cX10_readsOp 9 = .ok (.ldc2_w 197, 3) := by decide +kernel
theorem dX10_readsOp_12 : decode cX10_readsOp 12 = .ok (.invokestatic 96, 3) := by decide +kernel
theorem dX10_readsOp_15 : decode cX10_readsOp 15 = .ok (.invokevirtual 158, 3) := by decide +kernel
theorem dX10_readsOp_18 : decode cX10_readsOp 18 = .ok (.aload_n 0, 1) := by decide +kernel
theorem dX10_readsOp_19 : decode cX10_readsOp 19 = .ok (.getfield 7, 3) := by decide +kernel
theorem dX10_readsOp_22 : decode cX10_readsOp 22 = .ok (.bipush 49, 2) := by decide +kernel
theorem dX10_readsOp_24 : decode cX10_readsOp 24 = .ok (.aload_n 0, 1) := by decide +kernel
theorem dX10_readsOp_25 : decode cX10_readsOp 25 = .ok (.getfield 7, 3) := by decide +kernel
theorem dX10_readsOp_28 : decode cX10_readsOp 28 = .ok (.iconst 5, 1) := by decide +kernel
theorem dX10_readsOp_29 : decode cX10_readsOp 29 = .ok (.iaload, 1) := by decide +kernel
theorem dX10_readsOp_30 : decode cX10_readsOp 30 = .ok (.iadd, 1) := by decide +kernel
theorem dX10_readsOp_31 : decode cX10_readsOp 31 = .ok (.iload_n 1, 1) := by decide +kernel
theorem dX10_readsOp_32 : decode cX10_readsOp 32 = .ok (.iastore, 1) := by decide +kernel
theorem dX10_readsOp_33 : decode cX10_readsOp 33 = .ok (.aload_n 0, 1) := by decide +kernel
theorem dX10_readsOp_34 : decode cX10_readsOp 34 = .ok (.getfield 141, 3) := by decide +kernel
theorem dX10_readsOp_37 : decode cX10_readsOp 37 = .ok (.ifCond .ne 9, 3) := by decide +kernel
theorem dX10_readsOp_40 : decode cX10_readsOp 40 = .ok (.iload_n 1, 1) := by decide +kernel
theorem dX10_readsOp_41 : decode cX10_readsOp 41 = .ok (.bipush 7, 2) := by decide +kernel
theorem dX10_readsOp_43 : decode cX10_readsOp 43 = .ok (.if_icmp .ne 4, 3) := by decide +kernel
theorem dX10_readsOp_46 : decode cX10_readsOp 46 = .ok (.return_, 1) := by decide +kernel
theorem dX10_readsOp_47 : decode cX10_readsOp 47 = .ok (.aload_n 0, 1) := by decide +kernel
theorem dX10_readsOp_48 : decode cX10_readsOp 48 = .ok (.iconst 0, 1) := by decide +kernel
theorem dX10_readsOp_49 : decode cX10_readsOp 49 = .ok (.invokevirtual 199, 3) := by decide +kernel
theorem dX10_readsOp_52 : decode cX10_readsOp 52 = .ok (.iload_n 1, 1) := by decide +kernel
theorem dX10_readsOp_53 : decode cX10_readsOp 53 = .ok (.bipush 6, 2) := by decide +kernel
theorem dX10_readsOp_55 : decode cX10_readsOp 55 = .ok (.if_icmp .ne 31, 3) := by decide +kernel
theorem dX10_readsOp_58 : decode cX10_readsOp 58 = .ok (.aload_n 0, 1) := by decide +kernel
theorem dX10_readsOp_59 : decode cX10_readsOp 59 = .ok (.getfield 141, 3) := by decide +kernel
theorem dX10_readsOp_62 : decode cX10_readsOp 62 = .ok (.ifCond .ne 24, 3) := by decide +kernel
theorem dX10_readsOp_65 : decode cX10_readsOp 65 = .ok (.aload_n 0, 1) := by decide +kernel
theorem dX10_readsOp_66 : decode cX10_readsOp 66 = .ok (.getfield 7, 3) := by decide +kernel
theorem dX10_readsOp_69 : decode cX10_readsOp 69 = .ok (.bipush 89, 2) := by decide +kernel
theorem dX10_readsOp_71 : decode cX10_readsOp 71 = .ok (.aload_n 0, 1) := by decide +kernel
theorem dX10_readsOp_72 : decode cX10_readsOp 72 = .ok (.getfield 7, 3) := by decide +kernel
theorem dX10_readsOp_75 : decode cX10_readsOp 75 = .ok (.iconst 5, 1) := by decide +kernel
theorem dX10_readsOp_76 : decode cX10_readsOp 76 = .ok (.iaload, 1) := by decide +kernel
theorem dX10_readsOp_77 : decode cX10_readsOp 77 = .ok (.iadd, 1) := by decide +kernel
theorem dX10_readsOp_78 : decode cX10_readsOp 78 = .ok (.aload_n 0, 1) := by decide +kernel
theorem dX10_readsOp_79 : decode cX10_readsOp 79 = .ok (.iconst 1, 1) := by decide +kernel
theorem dX10_readsOp_80 : decode cX10_readsOp 80 = .ok (.bipush 7, 2) := by decide +kernel
theorem dX10_readsOp_82 : decode cX10_readsOp 82 = .ok (.invokevirtual 166, 3) := by decide +kernel
theorem dX10_readsOp_85 : decode cX10_readsOp 85 = .ok (.iastore, 1) := by decide +kernel
theorem dX10_readsOp_86 : decode cX10_readsOp 86 = .ok (.aload_n 0, 1) := by decide +kernel
theorem dX10_readsOp_87 : decode cX10_readsOp 87 = .ok (.iconst 1, 1) := by decide +kernel
theorem dX10_readsOp_88 : decode cX10_readsOp 88 = .ok (.invokevirtual 199, 3) := by decide +kernel
theorem dX10_readsOp_91 : decode cX10_readsOp 91 = .ok (.return_, 1) := by decide +kernel
theorem dX10_readsItem_0 : decode cX10_readsItem 0 = .ok (.aload_n 0, 1) := by decide +kernel
theorem dX10_readsItem_1 : decode cX10_readsItem 1 = .ok (.getfield 113, 3) := by decide +kernel
theorem dX10_readsItem_4 : decode cX10_readsItem 4 = .ok (.istore_n 1, 1) := by decide +kernel
theorem dX10_readsItem_5 : decode cX10_readsItem 5 = .ok (.iload_n 1, 1) := by decide +kernel
theorem dX10_readsItem_6 : decode cX10_readsItem 6 = .ok (.bipush 9, 2) := by decide +kernel
theorem dX10_readsItem_8 : decode cX10_readsItem 8 = .ok (.if_icmp .eq 17, 3) := by decide +kernel
theorem dX10_readsItem_11 : decode cX10_readsItem 11 = .ok (.iload_n 1, 1) := by decide +kernel
theorem dX10_readsItem_12 : decode cX10_readsItem 12 = .ok (.bipush 10, 2) := by decide +kernel
theorem dX10_readsItem_14 : decode cX10_readsItem 14 = .ok (.if_icmp .eq 11, 3) := by decide +kernel
theorem dX10_readsItem_17 : decode cX10_readsItem 17 = .ok (.aload_n 0, 1) := by decide +kernel
theorem dX10_readsItem_18 : decode cX10_readsItem 18 = .ok (.iconst 1, 1) := by decide +kernel
theorem dX10_readsItem_19 : decode cX10_readsItem 19 = .ok (.invokevirtual 151, 3) := by decide +kernel
theorem dX10_readsItem_22 : decode cX10_readsItem 22 = .ok (.goto 65, 3) := by decide +kernel
theorem dX10_readsItem_25 : decode cX10_readsItem 25 = .ok (.iload_n 1, 1) := by decide +kernel
theorem dX10_readsItem_26 : decode cX10_readsItem 26 = .ok (.bipush 9, 2) := by decide +kernel
theorem dX10_readsItem_28 : decode cX10_readsItem 28 = .ok (.if_icmp .ne 15, 3) := by decide +kernel
theorem dX10_readsItem_31 : decode cX10_readsItem 31 = .ok (.aload_n 0, 1) := by decide +kernel
theorem dX10_readsItem_32 : decode cX10_readsItem 32 = .ok (.getfield 202, 3) := by decide +kernel
theorem dX10_readsItem_35 : decode cX10_readsItem 35 = .ok (.bipush 8, 2) := by decide +kernel
theorem dX10_readsItem_37 : decode cX10_readsItem 37 = .ok (.if_icmp .ne 23, 3) := by decide +kernel
theorem dX10_readsItem_40 : decode cX10_readsItem 40 = .ok (.goto 12, 3) := by decide +kernel
theorem dX10_readsItem_43 : decode cX10_readsItem 43 = .ok (.aload_n 0, 1) := by decide +kernel
theorem dX10_readsItem_44 : decode cX10_readsItem 44 = .ok (.getfield 205, 3) := by decide +kernel
theorem dX10_readsItem_47 : decode cX10_readsItem 47 = .ok (.bipush 12, 2) := by decide +kernel
theorem dX10_readsItem_49 : decode cX10_readsItem 49 = .ok (.if_icmp .ne 11, 3) := by decide +kernel
theorem dX10_readsItem_52 : decode cX10_readsItem 52 = .ok (.aload_n 0, 1) := by decide +kernel
theorem dX10_readsItem_53 : decode cX10_readsItem 53 = .ok (.iconst 3, 1) := by decide +kernel
theorem dX10_readsItem_54 : decode cX10_readsItem 54 = .ok (.invokevirtual 151, 3) := by decide +kernel
theorem dX10_readsItem_57 : decode cX10_readsItem 57 = .ok (.goto 30, 3) := by decide +kernel
theorem dX10_readsItem_60 : decode cX10_readsItem 60 = .ok (.aload_n 0, 1) := by decide +kernel
theorem dX10_readsItem_61 : decode cX10_readsItem 61 = .ok (.getfield 7, 3) := by decide +kernel
theorem dX10_readsItem_64 : decode cX10_readsItem 64 = .ok (.iconst 5, 1) := by decide +kernel
theorem dX10_readsItem_65 : decode cX10_readsItem 65 = .ok (.iaload, 1) := by decide +kernel
theorem dX10_readsItem_66 : decode cX10_readsItem 66 = .ok (.aload_n 0, 1) := by decide +kernel
theorem dX10_readsItem_67 : decode cX10_readsItem 67 = .ok (.getfield 7, 3) := by decide +kernel
theorem dX10_readsItem_70 : decode cX10_readsItem 70 = .ok (.iconst 0, 1) := by decide +kernel
theorem dX10_readsItem_71 : decode cX10_readsItem 71 = .ok (.iaload, 1) := by decide +kernel
theorem dX10_readsItem_72 : decode cX10_readsItem 72 = .ok (.aload_n 0, 1) := by decide +kernel
theorem dX10_readsItem_73 : decode cX10_readsItem 73 = .ok (.getfield 7, 3) := by decide +kernel
theorem dX10_readsItem_76 : decode cX10_readsItem 76 = .ok (.iconst 1, 1) := by decide +kernel
theorem dX10_readsItem_77 : decode cX10_readsItem 77 = .ok (.iaload, 1) := by decide +kernel
theorem dX10_readsItem_78 : decode cX10_readsItem 78 = .ok (.imul, 1) := by decide +kernel
theorem dX10_readsItem_79 : decode cX10_readsItem 79 = .ok (.if_icmp .ne 8, 3) := by decide +kernel
theorem dX10_readsItem_82 : decode cX10_readsItem 82 = .ok (.aload_n 0, 1) := by decide +kernel
theorem dX10_readsItem_83 : decode cX10_readsItem 83 = .ok (.iconst 3, 1) := by decide +kernel
theorem dX10_readsItem_84 : decode cX10_readsItem 84 = .ok (.invokevirtual 151, 3) := by decide +kernel
theorem dX10_readsItem_87 : decode cX10_readsItem 87 = .ok (.aload_n 0, 1) := by decide +kernel
theorem dX10_readsItem_88 : decode cX10_readsItem 88 = .ok (.getfield 141, 3) := by decide +kernel
theorem dX10_readsItem_91 : decode cX10_readsItem 91 = .ok (.ifCond .eq 4, 3) := by decide +kernel
theorem dX10_readsItem_94 : decode cX10_readsItem 94 = .ok (.return_, 1) := by decide +kernel
theorem dX10_readsItem_95 : decode cX10_readsItem 95 = .ok (.aload_n 0, 1) := by decide +kernel
theorem dX10_readsItem_96 : decode cX10_readsItem 96 = .ok (.invokevirtual 155, 3) := by decide +kernel
theorem dX10_readsItem_99 : decode cX10_readsItem 99 = .ok (.aload_n 0, 1) := by decide +kernel
theorem dX10_readsItem_100 : decode cX10_readsItem 100 = .ok (.invokevirtual 208, 3) := by decide +kernel
theorem dX10_readsItem_103 : decode cX10_readsItem 103 = .ok (.aload_n 0, 1) := by decide +kernel
theorem dX10_readsItem_104 : decode cX10_readsItem 104 = .ok (.getfield 7, 3) := by decide +kernel
theorem dX10_readsItem_107 : decode cX10_readsItem 107 = .ok (.iconst 5, 1) := by decide +kernel
theorem dX10_readsItem_108 : decode cX10_readsItem 108 = .ok (.iaload, 1) := by decide +kernel
theorem dX10_readsItem_109 : decode cX10_readsItem 109 = .ok (.istore_n 2, 1) := by decide +kernel
theorem dX10_readsItem_110 : decode cX10_readsItem 110 = .ok (.aload_n 0, 1) := by decide +kernel
theorem dX10_readsItem_111 : decode cX10_readsItem 111 = .ok (.getfield 7, 3) := by decide +kernel
theorem dX10_readsItem_114 : decode cX10_readsItem 114 = .ok (.bipush 9, 2) := by decide +kernel
theorem dX10_readsItem_116 : decode cX10_readsItem 116 = .ok (.iload_n 2, 1) := by decide +kernel
theorem dX10_readsItem_117 : decode cX10_readsItem 117 = .ok (.iadd, 1) := by decide +kernel
theorem dX10_readsItem_118 : decode cX10_readsItem 118 = .ok (.iload_n 1, 1) := by decide +kernel
theorem dX10_readsItem_119 : decode cX10_readsItem 119 = .ok (.bipush 10, 2) := by decide +kernel
theorem dX10_readsItem_121 : decode cX10_readsItem 121 = .ok (.if_icmp .ne 7, 3) := by decide +kernel
theorem dX10_readsItem_124 : decode cX10_readsItem 124 = .ok (.iconst 1, 1) := by decide +kernel
theorem dX10_readsItem_125 : decode cX10_readsItem 125 = .ok (.goto 4, 3) := by decide +kernel
theorem dX10_readsItem_128 : decode cX10_readsItem 128 = .ok (.iconst 0, 1) := by decide +kernel
theorem dX10_readsItem_129 : decode cX10_readsItem 129 = .ok (.iastore, 1) := by decide +kernel
theorem dX10_readsItem_130 : decode cX10_readsItem 130 = .ok (.aload_n 0, 1) := by decide +kernel
theorem dX10_readsItem_131 : decode cX10_readsItem 131 = .ok (.getfield 141, 3) := by decide +kernel
theorem dX10_readsItem_134 : decode cX10_readsItem 134 = .ok (.ifCond .ne 16, 3) := by decide +kernel
theorem dX10_readsItem_137 : decode cX10_readsItem 137 = .ok (.iload_n 1, 1) := by decide +kernel
theorem dX10_readsItem_138 : decode cX10_readsItem 138 = .ok (.bipush 10, 2) := by decide +kernel
theorem dX10_readsItem_140 : decode cX10_readsItem 140 = .ok (.if_icmp .ne 10, 3) := by decide +kernel
theorem dX10_readsItem_143 : decode cX10_readsItem 143 = .ok (.aload_n 0, 1) := by decide +kernel
theorem dX10_readsItem_144 : decode cX10_readsItem 144 = .ok (.invokevirtual 211, 3) := by decide +kernel
theorem dX10_readsItem_147 : decode cX10_readsItem 147 = .ok (.goto 56, 3) := by decide +kernel
theorem dX10_readsItem_150 : decode cX10_readsItem 150 = .ok (.aload_n 0, 1) := by decide +kernel
theorem dX10_readsItem_151 : decode cX10_readsItem 151 = .ok (.getfield 141, 3) := by decide +kernel
theorem dX10_readsItem_154 : decode cX10_readsItem 154 = .ok (.ifCond .ne 49, 3) := by decide +kernel
theorem dX10_readsItem_157 : decode cX10_readsItem 157 = .ok (.aload_n 0, 1) := by decide +kernel
theorem dX10_readsItem_158 : decode cX10_readsItem 158 = .ok (.bipush 45, 2) := by decide +kernel
theorem dX10_readsItem_160 : decode cX10_readsItem 160 = .ok (.invokevirtual 214, 3) := by decide +kernel
theorem dX10_readsItem_163 : decode cX10_readsItem 163 = .ok (.istore_n 3, 1) := by decide +kernel
theorem dX10_readsItem_164 : decode cX10_readsItem 164 = .ok (.iload_n 3, 1) := by decide +kernel
theorem dX10_readsItem_165 : decode cX10_readsItem 165 = .ok (.ifCond .eq 7, 3) := by decide +kernel
theorem dX10_readsItem_168 : decode cX10_readsItem 168 = .ok (.aload_n 0, 1) := by decide +kernel
theorem dX10_readsItem_169 : decode cX10_readsItem 169 = .ok (.invokevirtual 155, 3) := by decide +kernel
theorem dX10_readsItem_172 : decode cX10_readsItem 172 = .ok (.aload_n 0, 1) := by decide +kernel
theorem dX10_readsItem_173 : decode cX10_readsItem 173 = .ok (.iconst 0, 1) := by decide +kernel
theorem dX10_readsItem_174 : decode cX10_readsItem 174 = .ok (.sipush 9999, 3) := by decide +kernel
theorem dX10_readsItem_177 : decode cX10_readsItem 177 = .ok (.invokevirtual 166, 3) := by decide +kernel
theorem dX10_readsItem_180 : decode cX10_readsItem 180 = .ok (.istore 4, 2) := by decide +kernel
theorem dX10_readsItem_182 : decode cX10_readsItem 182 = .ok (.aload_n 0, 1) := by decide +kernel
theorem dX10_readsItem_183 : decode cX10_readsItem 183 = .ok (.getfield 7, 3) := by decide +kernel
theorem dX10_readsItem_186 : decode cX10_readsItem 186 = .ok (.bipush 29, 2) := by decide +kernel
theorem dX10_readsItem_188 : decode cX10_readsItem 188 = .ok (.iload_n 2, 1) := by decide +kernel
theorem dX10_readsItem_189 : decode cX10_readsItem 189 = .ok (.iadd, 1) := by decide +kernel
theorem dX10_readsItem_190 : decode cX10_readsItem 190 = .ok (.iload_n 3, 1) := by decide +kernel
theorem dX10_readsItem_191 : decode cX10_readsItem 191 = .ok (.ifCond .eq 9, 3) := by decide +kernel
theorem dX10_readsItem_194 : decode cX10_readsItem 194 = .ok (.iload 4, 2) := by decide +kernel
theorem dX10_readsItem_196 : decode cX10_readsItem 196 = .ok (.ineg, 1) := by decide +kernel
theorem dX10_readsItem_197 : decode cX10_readsItem 197 = .ok (.goto 5, 3) := by decide +kernel
theorem dX10_readsItem_200 : decode cX10_readsItem 200 = .ok (.iload 4, 2) := by decide +kernel
theorem dX10_readsItem_202 : decode cX10_readsItem 202 = .ok (.iastore, 1) := by decide +kernel
theorem dX10_readsItem_203 : decode cX10_readsItem 203 = .ok (.aload_n 0, 1) := by decide +kernel
theorem dX10_readsItem_204 : decode cX10_readsItem 204 = .ok (.getfield 7, 3) := by decide +kernel
theorem dX10_readsItem_207 : decode cX10_readsItem 207 = .ok (.sipush 129, 3) := by decide +kernel
theorem dX10_readsItem_210 : decode cX10_readsItem 210 = .ok (.iload_n 2, 1) := by decide +kernel
theorem dX10_readsItem_211 : decode cX10_readsItem 211 = .ok (.iadd, 1) := by decide +kernel
theorem dX10_readsItem_212 : decode cX10_readsItem 212 = .ok (.iconst (-1), 1) := by decide +kernel
theorem dX10_readsItem_213 : decode cX10_readsItem 213 = .ok (.iastore, 1) := by decide +kernel
theorem dX10_readsItem_214 : decode cX10_readsItem 214 = .ok (.aload_n 0, 1) := by decide +kernel
theorem dX10_readsItem_215 : decode cX10_readsItem 215 = .ok (.getfield 141, 3) := by decide +kernel
theorem dX10_readsItem_218 : decode cX10_readsItem 218 = .ok (.ifCond .ne 94, 3) := by decide +kernel
theorem dX10_readsItem_221 : decode cX10_readsItem 221 = .ok (.aload_n 0, 1) := by decide +kernel
theorem dX10_readsItem_222 : decode cX10_readsItem 222 = .ok (.getfield 113, 3) := by decide +kernel
theorem dX10_readsItem_225 : decode cX10_readsItem 225 = .ok (.bipush 11, 2) := by decide +kernel
theorem dX10_readsItem_227 : decode cX10_readsItem 227 = .ok (.if_icmp .ne 85, 3) := by decide +kernel
theorem dX10_readsItem_230 : decode cX10_readsItem 230 = .ok (.aload_n 0, 1) := by decide +kernel
theorem dX10_readsItem_231 : decode cX10_readsItem 231 = .ok (.invokevirtual 155, 3) := by decide +kernel
theorem dX10_readsItem_234 : decode cX10_readsItem 234 = .ok (.aload_n 0, 1) := by decide +kernel
theorem dX10_readsItem_235 : decode cX10_readsItem 235 = .ok (.getfield 116, 3) := by decide +kernel
theorem dX10_readsItem_238 : decode cX10_readsItem 238 = .ok (.iconst 2, 1) := by decide +kernel
theorem dX10_readsItem_239 : decode cX10_readsItem 239 = .ok (.if_icmp .ne 39, 3) := by decide +kernel
theorem dX10_readsItem_242 : decode cX10_readsItem 242 = .ok (.aload_n 0, 1) := by decide +kernel
theorem dX10_readsItem_243 : decode cX10_readsItem 243 = .ok (.getfield 110, 3) := by decide +kernel
theorem dX10_readsItem_246 : decode cX10_readsItem 246 = .ok (.i2l, 1) := by decide +kernel
theorem dX10_readsItem_247 : decode cX10_readsItem 247 = .ok (.lconst 0, 1) := by decide +kernel
theorem dX10_readsItem_248 : decode cX10_readsItem 248 = .ok (.aload_n 0, 1) := by decide +kernel
theorem dX10_readsItem_249 : decode cX10_readsItem 249 = .ok (.invokevirtual 218, 3) := by decide +kernel
theorem dX10_readsItem_252 : decode cX10_readsItem 252 = .ok (.iconst 1, 1) := by decide +kernel
theorem dX10_readsItem_253 : decode cX10_readsItem 253 = .ok (.isub, 1) := by decide +kernel
theorem dX10_readsItem_254 : decode cX10_readsItem 254 = .ok (.i2l, 1) := by decide +kernel
theorem dX10_readsItem_255 : decode cX10_readsItem 255 = .ok (.invokestatic 96, 3) := by decide +kernel
theorem dX10_readsItem_258 : decode cX10_readsItem 258 = .ok (.ifCond .eq 20, 3) := by decide +kernel
theorem dX10_readsItem_261 : decode cX10_readsItem 261 = .ok (.aload_n 0, 1) := by decide +kernel
theorem dX10_readsItem_262 : decode cX10_readsItem 262 = .ok (.aload_n 0, 1) := by decide +kernel
theorem dX10_readsItem_263 : decode cX10_readsItem 263 = .ok (.getfield 110, 3) := by decide +kernel
theorem dX10_readsItem_266 : decode cX10_readsItem 266 = .ok (.invokevirtual 221, 3) := by decide +kernel
theorem dX10_readsItem_269 : decode cX10_readsItem 269 = .ok (.iconst (-1), 1) := by decide +kernel
theorem dX10_readsItem_270 : decode cX10_readsItem 270 = .ok (.if_icmp .eq 8, 3) := by decide +kernel
theorem dX10_readsItem_273 : decode cX10_readsItem 273 = .ok (.aload_n 0, 1) := by decide +kernel
theorem dX10_readsItem_274 : decode cX10_readsItem 274 = .ok (.iconst 2, 1) := by decide +kernel
theorem dX10_readsItem_275 : decode cX10_readsItem 275 = .ok (.invokevirtual 151, 3) := by decide +kernel
theorem dX10_readsItem_278 : decode cX10_readsItem 278 = .ok (.aload_n 0, 1) := by decide +kernel
theorem dX10_readsItem_279 : decode cX10_readsItem 279 = .ok (.getfield 141, 3) := by decide +kernel
theorem dX10_readsItem_282 : decode cX10_readsItem 282 = .ok (.ifCond .eq 7, 3) := by decide +kernel
theorem dX10_readsItem_285 : decode cX10_readsItem 285 = .ok (.iconst 0, 1) := by decide +kernel
theorem dX10_readsItem_286 : decode cX10_readsItem 286 = .ok (.goto 14, 3) := by decide +kernel
theorem dX10_readsItem_289 : decode cX10_readsItem 289 = .ok (.aload_n 0, 1) := by decide +kernel
theorem dX10_readsItem_290 : decode cX10_readsItem 290 = .ok (.iconst 0, 1) := by decide +kernel
theorem dX10_readsItem_291 : decode cX10_readsItem 291 = .ok (.aload_n 0, 1) := by decide +kernel
theorem dX10_readsItem_292 : decode cX10_readsItem 292 = .ok (.invokevirtual 218, 3) := by decide +kernel
theorem dX10_readsItem_295 : decode cX10_readsItem 295 = .ok (.iconst 1, 1) := by decide +kernel
theorem dX10_readsItem_296 : decode cX10_readsItem 296 = .ok (.isub, 1) := by decide +kernel
theorem dX10_readsItem_297 : decode cX10_readsItem 297 = .ok (.invokevirtual 166, 3) := by decide +kernel
theorem dX10_readsItem_300 : decode cX10_readsItem 300 = .ok (.istore_n 3, 1) := by decide +kernel
theorem dX10_readsItem_301 : decode cX10_readsItem 301 = .ok (.aload_n 0, 1) := by decide +kernel
theorem dX10_readsItem_302 : decode cX10_readsItem 302 = .ok (.getfield 7, 3) := by decide +kernel
theorem dX10_readsItem_305 : decode cX10_readsItem 305 = .ok (.sipush 129, 3) := by decide +kernel
theorem dX10_readsItem_308 : decode cX10_readsItem 308 = .ok (.iload_n 2, 1) := by decide +kernel
theorem dX10_readsItem_309 : decode cX10_readsItem 309 = .ok (.iadd, 1) := by decide +kernel
theorem dX10_readsItem_310 : decode cX10_readsItem 310 = .ok (.iload_n 3, 1) := by decide +kernel
theorem dX10_readsItem_311 : decode cX10_readsItem 311 = .ok (.iastore, 1) := by decide +kernel
theorem dX10_readsItem_312 : decode cX10_readsItem 312 = .ok (.aload_n 0, 1) := by decide +kernel
theorem dX10_readsItem_313 : decode cX10_readsItem 313 = .ok (.dup, 1) := by decide +kernel
theorem dX10_readsItem_314 : decode cX10_readsItem 314 = .ok (.getfield 202, 3) := by decide +kernel
theorem dX10_readsItem_317 : decode cX10_readsItem 317 = .ok (.iload_n 1, 1) := by decide +kernel
theorem dX10_readsItem_318 : decode cX10_readsItem 318 = .ok (.bipush 9, 2) := by decide +kernel
theorem dX10_readsItem_320 : decode cX10_readsItem 320 = .ok (.if_icmp .ne 7, 3) := by decide +kernel
theorem dX10_readsItem_323 : decode cX10_readsItem 323 = .ok (.iconst 1, 1) := by decide +kernel
theorem dX10_readsItem_324 : decode cX10_readsItem 324 = .ok (.goto 4, 3) := by decide +kernel
theorem dX10_readsItem_327 : decode cX10_readsItem 327 = .ok (.iconst 0, 1) := by decide +kernel
theorem dX10_readsItem_328 : decode cX10_readsItem 328 = .ok (.iadd, 1) := by decide +kernel
theorem dX10_readsItem_329 : decode cX10_readsItem 329 = .ok (.putfield 202, 3) := by decide +kernel
theorem dX10_readsItem_332 : decode cX10_readsItem 332 = .ok (.aload_n 0, 1) := by decide +kernel
theorem dX10_readsItem_333 : decode cX10_readsItem 333 = .ok (.dup, 1) := by decide +kernel
theorem dX10_readsItem_334 : decode cX10_readsItem 334 = .ok (.getfield 205, 3) := by decide +kernel
theorem dX10_readsItem_337 : decode cX10_readsItem 337 = .ok (.iload_n 1, 1) := by decide +kernel
theorem dX10_readsItem_338 : decode cX10_readsItem 338 = .ok (.bipush 10, 2) := by decide +kernel
theorem dX10_readsItem_340 : decode cX10_readsItem 340 = .ok (.if_icmp .ne 7, 3) := by decide +kernel
theorem dX10_readsItem_343 : decode cX10_readsItem 343 = .ok (.iconst 1, 1) := by decide +kernel
theorem dX10_readsItem_344 : decode cX10_readsItem 344 = .ok (.goto 4, 3) := by decide +kernel
theorem dX10_readsItem_347 : decode cX10_readsItem 347 = .ok (.iconst 0, 1) := by decide +kernel
theorem dX10_readsItem_348 : decode cX10_readsItem 348 = .ok (.iadd, 1) := by decide +kernel
theorem dX10_readsItem_349 : decode cX10_readsItem 349 = .ok (.putfield 205, 3) := by decide +kernel
theorem dX10_readsItem_352 : decode cX10_readsItem 352 = .ok (.aload_n 0, 1) := by decide +kernel
theorem dX10_readsItem_353 : decode cX10_readsItem 353 = .ok (.getfield 7, 3) := by decide +kernel
theorem dX10_readsItem_356 : decode cX10_readsItem 356 = .ok (.iconst 5, 1) := by decide +kernel
theorem dX10_readsItem_357 : decode cX10_readsItem 357 = .ok (.dup2, 1) := by decide +kernel
theorem dX10_readsItem_358 : decode cX10_readsItem 358 = .ok (.iaload, 1) := by decide +kernel
theorem dX10_readsItem_359 : decode cX10_readsItem 359 = .ok (.iconst 1, 1) := by decide +kernel
theorem dX10_readsItem_360 : decode cX10_readsItem 360 = .ok (.iadd, 1) := by decide +kernel
theorem dX10_readsItem_361 : decode cX10_readsItem 361 = .ok (.iastore, 1) := by decide +kernel
theorem dX10_readsItem_362 : decode cX10_readsItem 362 = .ok (.return_, 1) := by decide +kernel
theorem dX10_many_0 : decode cX10_many 0 = .ok (.aload_n 0, 1) := by decide +kernel
theorem dX10_many_1 : decode cX10_many 1 = .ok (.getfield 7, 3) := by decide +kernel
theorem dX10_many_4 : decode cX10_many 4 = .ok (.iconst 0, 1) := by decide +kernel
theorem dX10_many_5 : decode cX10_many 5 = .ok (.iaload, 1) := by decide +kernel
theorem dX10_many_6 : decode cX10_many 6 = .ok (.aload_n 0, 1) := by decide +kernel
theorem dX10_many_7 : decode cX10_many 7 = .ok (.getfield 7, 3) := by decide +kernel
theorem dX10_many_10 : decode cX10_many 10 = .ok (.iconst 1, 1) := by decide +kernel
theorem dX10_many_11 : decode cX10_many 11 = .ok (.iaload, 1) := by decide +kernel
theorem dX10_many_12 : decode cX10_many 12 = .ok (.imul, 1) := by decide +kernel
theorem dX10_many_13 : decode cX10_many 13 = .ok (.ireturn, 1) := by decide +kernel
theorem dX10_fixedAt_0 : decode cX10_fixedAt 0 = .ok (.iconst 0, 1) := by decide +kernel
theorem dX10_fixedAt_1 : decode cX10_fixedAt 1 = .ok (.istore_n 2, 1) := by decide +kernel
theorem dX10_fixedAt_2 : decode cX10_fixedAt 2 = .ok (.iload_n 2, 1) := by decide +kernel
theorem dX10_fixedAt_3 : decode cX10_fixedAt 3 = .ok (.aload_n 0, 1) := by decide +kernel
theorem dX10_fixedAt_4 : decode cX10_fixedAt 4 = .ok (.getfield 7, 3) := by decide +kernel
theorem dX10_fixedAt_7 : decode cX10_fixedAt 7 = .ok (.iconst 5, 1) := by decide +kernel
theorem dX10_fixedAt_8 : decode cX10_fixedAt 8 = .ok (.iaload, 1) := by decide +kernel
theorem dX10_fixedAt_9 : decode cX10_fixedAt 9 = .ok (.if_icmp .ge 25, 3) := by decide +kernel
theorem dX10_fixedAt_12 : decode cX10_fixedAt 12 = .ok (.aload_n 0, 1) := by decide +kernel
theorem dX10_fixedAt_13 : decode cX10_fixedAt 13 = .ok (.getfield 7, 3) := by decide +kernel
theorem dX10_fixedAt_16 : decode cX10_fixedAt 16 = .ok (.sipush 129, 3) := by decide +kernel
theorem dX10_fixedAt_19 : decode cX10_fixedAt 19 = .ok (.iload_n 2, 1) := by decide +kernel
theorem dX10_fixedAt_20 : decode cX10_fixedAt 20 = .ok (.iadd, 1) := by decide +kernel
theorem dX10_fixedAt_21 : decode cX10_fixedAt 21 = .ok (.iaload, 1) := by decide +kernel
theorem dX10_fixedAt_22 : decode cX10_fixedAt 22 = .ok (.iload_n 1, 1) := by decide +kernel
theorem dX10_fixedAt_23 : decode cX10_fixedAt 23 = .ok (.if_icmp .ne 5, 3) := by decide +kernel
theorem dX10_fixedAt_26 : decode cX10_fixedAt 26 = .ok (.iload_n 2, 1) := by decide +kernel
theorem dX10_fixedAt_27 : decode cX10_fixedAt 27 = .ok (.ireturn, 1) := by decide +kernel
theorem dX10_fixedAt_28 : decode cX10_fixedAt 28 = .ok (.iinc 2 1, 3) := by decide +kernel
theorem dX10_fixedAt_31 : decode cX10_fixedAt 31 = .ok (.goto (-29), 3) := by decide +kernel
theorem dX10_fixedAt_34 : decode cX10_fixedAt 34 = .ok (.iconst (-1), 1) := by decide +kernel
theorem dX10_fixedAt_35 : decode cX10_fixedAt 35 = .ok (.ireturn, 1) := by decide +kernel
theorem dX10_resolves_0 : decode cX10_resolves 0 = .ok (.iconst 0, 1) := by decide +kernel
theorem dX10_resolves_1 : decode cX10_resolves 1 = .ok (.istore_n 1, 1) := by decide +kernel
theorem dX10_resolves_2 : decode cX10_resolves 2 = .ok (.iload_n 1, 1) := by decide +kernel
theorem dX10_resolves_3 : decode cX10_resolves 3 = .ok (.aload_n 0, 1) := by decide +kernel
theorem dX10_resolves_4 : decode cX10_resolves 4 = .ok (.getfield 194, 3) := by decide +kernel
theorem dX10_resolves_7 : decode cX10_resolves 7 = .ok (.if_icmp .ge 194, 3) := by decide +kernel
theorem dX10_resolves_10 : decode cX10_resolves 10 = .ok (.aload_n 0, 1) := by decide +kernel
theorem dX10_resolves_11 : decode cX10_resolves 11 = .ok (.getfield 141, 3) := by decide +kernel
theorem dX10_resolves_14 : decode cX10_resolves 14 = .ok (.ifCond .ne 187, 3) := by decide +kernel
theorem dX10_resolves_17 : decode cX10_resolves 17 = .ok (.aload_n 0, 1) := by decide +kernel
theorem dX10_resolves_18 : decode cX10_resolves 18 = .ok (.getfield 38, 3) := by decide +kernel
theorem dX10_resolves_21 : decode cX10_resolves 21 = .ok (.iload_n 1, 1) := by decide +kernel
theorem dX10_resolves_22 : decode cX10_resolves 22 = .ok (.iaload, 1) := by decide +kernel
theorem dX10_resolves_23 : decode cX10_resolves 23 = .ok (.istore_n 2, 1) := by decide +kernel
theorem dX10_resolves_24 : decode cX10_resolves 24 = .ok (.aload_n 0, 1) := by decide +kernel
theorem dX10_resolves_25 : decode cX10_resolves 25 = .ok (.aload_n 0, 1) := by decide +kernel
theorem dX10_resolves_26 : decode cX10_resolves 26 = .ok (.getfield 32, 3) := by decide +kernel
theorem dX10_resolves_29 : decode cX10_resolves 29 = .ok (.iload_n 1, 1) := by decide +kernel
theorem dX10_resolves_30 : decode cX10_resolves 30 = .ok (.iaload, 1) := by decide +kernel
theorem dX10_resolves_31 : decode cX10_resolves 31 = .ok (.aload_n 0, 1) := by decide +kernel
theorem dX10_resolves_32 : decode cX10_resolves 32 = .ok (.getfield 35, 3) := by decide +kernel
theorem dX10_resolves_35 : decode cX10_resolves 35 = .ok (.iload_n 1, 1) := by decide +kernel
theorem dX10_resolves_36 : decode cX10_resolves 36 = .ok (.iaload, 1) := by decide +kernel
theorem dX10_resolves_37 : decode cX10_resolves 37 = .ok (.invokevirtual 191, 3) := by decide +kernel
theorem dX10_resolves_40 : decode cX10_resolves 40 = .ok (.istore_n 3, 1) := by decide +kernel
theorem dX10_resolves_41 : decode cX10_resolves 41 = .ok (.iload_n 3, 1) := by decide +kernel
theorem dX10_resolves_42 : decode cX10_resolves 42 = .ok (.iconst (-1), 1) := by decide +kernel
theorem dX10_resolves_43 : decode cX10_resolves 43 = .ok (.if_icmp .eq 20, 3) := by decide +kernel
theorem dX10_resolves_46 : decode cX10_resolves 46 = .ok (.aload_n 0, 1) := by decide +kernel
theorem dX10_resolves_47 : decode cX10_resolves 47 = .ok (.getfield 7, 3) := by decide +kernel
theorem dX10_resolves_50 : decode cX10_resolves 50 = .ok (.bipush 9, 2) := by decide +kernel
theorem dX10_resolves_52 : decode cX10_resolves 52 = .ok (.iload_n 3, 1) := by decide +kernel
theorem dX10_resolves_53 : decode cX10_resolves 53 = .ok (.iadd, 1) := by decide +kernel
theorem dX10_resolves_54 : decode cX10_resolves 54 = .ok (.iaload, 1) := by decide +kernel
theorem dX10_resolves_55 : decode cX10_resolves 55 = .ok (.iconst 1, 1) := by decide +kernel
theorem dX10_resolves_56 : decode cX10_resolves 56 = .ok (.if_icmp .ne 7, 3) := by decide +kernel
theorem dX10_resolves_59 : decode cX10_resolves 59 = .ok (.iconst 1, 1) := by decide +kernel
theorem dX10_resolves_60 : decode cX10_resolves 60 = .ok (.goto 4, 3) := by decide +kernel
theorem dX10_resolves_63 : decode cX10_resolves 63 = .ok (.iconst 0, 1) := by decide +kernel
theorem dX10_resolves_64 : decode cX10_resolves 64 = .ok (.istore 4, 2) := by decide +kernel
theorem dX10_resolves_66 : decode cX10_resolves 66 = .ok (.aload_n 0, 1) := by decide +kernel
theorem dX10_resolves_67 : decode cX10_resolves 67 = .ok (.getfield 7, 3) := by decide +kernel
theorem dX10_resolves_70 : decode cX10_resolves 70 = .ok (.bipush 49, 2) := by decide +kernel
theorem dX10_resolves_72 : decode cX10_resolves 72 = .ok (.iload_n 2, 1) := by decide +kernel
theorem dX10_resolves_73 : decode cX10_resolves 73 = .ok (.iadd, 1) := by decide +kernel
theorem dX10_resolves_74 : decode cX10_resolves 74 = .ok (.iaload, 1) := by decide +kernel
theorem dX10_resolves_75 : decode cX10_resolves 75 = .ok (.istore 5, 2) := by decide +kernel
theorem dX10_resolves_77 : decode cX10_resolves 77 = .ok (.aload_n 0, 1) := by decide +kernel
theorem dX10_resolves_78 : decode cX10_resolves 78 = .ok (.getfield 41, 3) := by decide +kernel
theorem dX10_resolves_81 : decode cX10_resolves 81 = .ok (.iload_n 1, 1) := by decide +kernel
theorem dX10_resolves_82 : decode cX10_resolves 82 = .ok (.baload, 1) := by decide +kernel
theorem dX10_resolves_83 : decode cX10_resolves 83 = .ok (.ifCond .ne 9, 3) := by decide +kernel
theorem dX10_resolves_86 : decode cX10_resolves 86 = .ok (.iload 5, 2) := by decide +kernel
theorem dX10_resolves_88 : decode cX10_resolves 88 = .ok (.iconst 5, 1) := by decide +kernel
theorem dX10_resolves_89 : decode cX10_resolves 89 = .ok (.if_icmp .ne 10, 3) := by decide +kernel
theorem dX10_resolves_92 : decode cX10_resolves 92 = .ok (.iload 4, 2) := by decide +kernel
theorem dX10_resolves_94 : decode cX10_resolves 94 = .ok (.istore 6, 2) := by decide +kernel
theorem dX10_resolves_96 : decode cX10_resolves 96 = .ok (.goto 55, 3) := by decide +kernel
theorem dX10_resolves_99 : decode cX10_resolves 99 = .ok (.iload 5, 2) := by decide +kernel
theorem dX10_resolves_101 : decode cX10_resolves 101 = .ok (.bipush 6, 2) := by decide +kernel
theorem dX10_resolves_103 : decode cX10_resolves 103 = .ok (.if_icmp .ne 31, 3) := by decide +kernel
theorem dX10_resolves_106 : decode cX10_resolves 106 = .ok (.iload 4, 2) := by decide +kernel
theorem dX10_resolves_108 : decode cX10_resolves 108 = .ok (.ifCond .eq 20, 3) := by decide +kernel
theorem dX10_resolves_111 : decode cX10_resolves 111 = .ok (.aload_n 0, 1) := by decide +kernel
theorem dX10_resolves_112 : decode cX10_resolves 112 = .ok (.getfield 7, 3) := by decide +kernel
theorem dX10_resolves_115 : decode cX10_resolves 115 = .ok (.bipush 49, 2) := by decide +kernel
theorem dX10_resolves_117 : decode cX10_resolves 117 = .ok (.iload_n 3, 1) := by decide +kernel
theorem dX10_resolves_118 : decode cX10_resolves 118 = .ok (.iadd, 1) := by decide +kernel
theorem dX10_resolves_119 : decode cX10_resolves 119 = .ok (.iaload, 1) := by decide +kernel
theorem dX10_resolves_120 : decode cX10_resolves 120 = .ok (.iconst 4, 1) := by decide +kernel
theorem dX10_resolves_121 : decode cX10_resolves 121 = .ok (.if_icmp .gt 7, 3) := by decide +kernel
theorem dX10_resolves_124 : decode cX10_resolves 124 = .ok (.iconst 1, 1) := by decide +kernel
theorem dX10_resolves_125 : decode cX10_resolves 125 = .ok (.goto 4, 3) := by decide +kernel
theorem dX10_resolves_128 : decode cX10_resolves 128 = .ok (.iconst 0, 1) := by decide +kernel
theorem dX10_resolves_129 : decode cX10_resolves 129 = .ok (.istore 6, 2) := by decide +kernel
theorem dX10_resolves_131 : decode cX10_resolves 131 = .ok (.goto 20, 3) := by decide +kernel
theorem dX10_resolves_134 : decode cX10_resolves 134 = .ok (.iload_n 3, 1) := by decide +kernel
theorem dX10_resolves_135 : decode cX10_resolves 135 = .ok (.iconst (-1), 1) := by decide +kernel
theorem dX10_resolves_136 : decode cX10_resolves 136 = .ok (.if_icmp .eq 12, 3) := by decide +kernel
theorem dX10_resolves_139 : decode cX10_resolves 139 = .ok (.iload 4, 2) := by decide +kernel
theorem dX10_resolves_141 : decode cX10_resolves 141 = .ok (.ifCond .ne 7, 3) := by decide +kernel
theorem dX10_resolves_144 : decode cX10_resolves 144 = .ok (.iconst 1, 1) := by decide +kernel
theorem dX10_resolves_145 : decode cX10_resolves 145 = .ok (.goto 4, 3) := by decide +kernel
theorem dX10_resolves_148 : decode cX10_resolves 148 = .ok (.iconst 0, 1) := by decide +kernel
theorem dX10_resolves_149 : decode cX10_resolves 149 = .ok (.istore 6, 2) := by decide +kernel
theorem dX10_resolves_151 : decode cX10_resolves 151 = .ok (.iload 6, 2) := by decide +kernel
theorem dX10_resolves_153 : decode cX10_resolves 153 = .ok (.ifCond .ne 18, 3) := by decide +kernel
theorem dX10_resolves_156 : decode cX10_resolves 156 = .ok (.aload_n 0, 1) := by decide +kernel
theorem dX10_resolves_157 : decode cX10_resolves 157 = .ok (.aload_n 0, 1) := by decide +kernel
theorem dX10_resolves_158 : decode cX10_resolves 158 = .ok (.getfield 32, 3) := by decide +kernel
theorem dX10_resolves_161 : decode cX10_resolves 161 = .ok (.iload_n 1, 1) := by decide +kernel
theorem dX10_resolves_162 : decode cX10_resolves 162 = .ok (.iaload, 1) := by decide +kernel
theorem dX10_resolves_163 : decode cX10_resolves 163 = .ok (.putfield 107, 3) := by decide +kernel
theorem dX10_resolves_166 : decode cX10_resolves 166 = .ok (.aload_n 0, 1) := by decide +kernel
theorem dX10_resolves_167 : decode cX10_resolves 167 = .ok (.iconst 4, 1) := by decide +kernel
theorem dX10_resolves_168 : decode cX10_resolves 168 = .ok (.invokevirtual 151, 3) := by decide +kernel
theorem dX10_resolves_171 : decode cX10_resolves 171 = .ok (.aload_n 0, 1) := by decide +kernel
theorem dX10_resolves_172 : decode cX10_resolves 172 = .ok (.getfield 7, 3) := by decide +kernel
theorem dX10_resolves_175 : decode cX10_resolves 175 = .ok (.aload_n 0, 1) := by decide +kernel
theorem dX10_resolves_176 : decode cX10_resolves 176 = .ok (.getfield 41, 3) := by decide +kernel
theorem dX10_resolves_179 : decode cX10_resolves 179 = .ok (.iload_n 1, 1) := by decide +kernel
theorem dX10_resolves_180 : decode cX10_resolves 180 = .ok (.baload, 1) := by decide +kernel
theorem dX10_resolves_181 : decode cX10_resolves 181 = .ok (.ifCond .eq 8, 3) := by decide +kernel
theorem dX10_resolves_184 : decode cX10_resolves 184 = .ok (.bipush 109, 2) := by decide +kernel
theorem dX10_resolves_186 : decode cX10_resolves 186 = .ok (.goto 5, 3) := by decide +kernel
theorem dX10_resolves_189 : decode cX10_resolves 189 = .ok (.bipush 69, 2) := by decide +kernel
theorem dX10_resolves_191 : decode cX10_resolves 191 = .ok (.iload_n 2, 1) := by decide +kernel
theorem dX10_resolves_192 : decode cX10_resolves 192 = .ok (.iadd, 1) := by decide +kernel
theorem dX10_resolves_193 : decode cX10_resolves 193 = .ok (.iload_n 3, 1) := by decide +kernel
theorem dX10_resolves_194 : decode cX10_resolves 194 = .ok (.iastore, 1) := by decide +kernel
theorem dX10_resolves_195 : decode cX10_resolves 195 = .ok (.iinc 1 1, 3) := by decide +kernel
theorem dX10_resolves_198 : decode cX10_resolves 198 = .ok (.goto (-196), 3) := by decide +kernel
theorem dX10_resolves_201 : decode cX10_resolves 201 = .ok (.return_, 1) := by decide +kernel
theorem dX10_drum_0 : decode cX10_drum 0 = .ok (.iconst 0, 1) := by decide +kernel
theorem dX10_drum_1 : decode cX10_drum 1 = .ok (.istore_n 1, 1) := by decide +kernel
theorem dX10_drum_2 : decode cX10_drum 2 = .ok (.iload_n 1, 1) := by decide +kernel
theorem dX10_drum_3 : decode cX10_drum 3 = .ok (.aload_n 0, 1) := by decide +kernel
theorem dX10_drum_4 : decode cX10_drum 4 = .ok (.getfield 7, 3) := by decide +kernel
theorem dX10_drum_7 : decode cX10_drum 7 = .ok (.arraylength, 1) := by decide +kernel
theorem dX10_drum_8 : decode cX10_drum 8 = .ok (.if_icmp .ge 28, 3) := by decide +kernel
theorem dX10_drum_11 : decode cX10_drum 11 = .ok (.aload_n 0, 1) := by decide +kernel
theorem dX10_drum_12 : decode cX10_drum 12 = .ok (.getfield 13, 3) := by decide +kernel
theorem dX10_drum_15 : decode cX10_drum 15 = .ok (.iload_n 1, 1) := by decide +kernel
theorem dX10_drum_16 : decode cX10_drum 16 = .ok (.aload_n 0, 1) := by decide +kernel
theorem dX10_drum_17 : decode cX10_drum 17 = .ok (.getfield 7, 3) := by decide +kernel
theorem dX10_drum_20 : decode cX10_drum 20 = .ok (.iload_n 1, 1) := by decide +kernel
theorem dX10_drum_21 : decode cX10_drum 21 = .ok (.iaload, 1) := by decide +kernel
theorem dX10_drum_22 : decode cX10_drum 22 = .ok (.iastore, 1) := by decide +kernel
theorem dX10_drum_23 : decode cX10_drum 23 = .ok (.aload_n 0, 1) := by decide +kernel
theorem dX10_drum_24 : decode cX10_drum 24 = .ok (.getfield 7, 3) := by decide +kernel
theorem dX10_drum_27 : decode cX10_drum 27 = .ok (.iload_n 1, 1) := by decide +kernel
theorem dX10_drum_28 : decode cX10_drum 28 = .ok (.iconst 0, 1) := by decide +kernel
theorem dX10_drum_29 : decode cX10_drum 29 = .ok (.iastore, 1) := by decide +kernel
theorem dX10_drum_30 : decode cX10_drum 30 = .ok (.iinc 1 1, 3) := by decide +kernel
theorem dX10_drum_33 : decode cX10_drum 33 = .ok (.goto (-31), 3) := by decide +kernel
theorem dX10_drum_36 : decode cX10_drum 36 = .ok (.aload_n 0, 1) := by decide +kernel
theorem dX10_drum_37 : decode cX10_drum 37 = .ok (.iconst 0, 1) := by decide +kernel
theorem dX10_drum_38 : decode cX10_drum 38 = .ok (.putfield 100, 3) := by decide +kernel
theorem dX10_drum_41 : decode cX10_drum 41 = .ok (.aload_n 0, 1) := by decide +kernel
theorem dX10_drum_42 : decode cX10_drum 42 = .ok (.iconst 0, 1) := by decide +kernel
theorem dX10_drum_43 : decode cX10_drum 43 = .ok (.putfield 141, 3) := by decide +kernel
theorem dX10_drum_46 : decode cX10_drum 46 = .ok (.aload_n 0, 1) := by decide +kernel
theorem dX10_drum_47 : decode cX10_drum 47 = .ok (.iconst 0, 1) := by decide +kernel
theorem dX10_drum_48 : decode cX10_drum 48 = .ok (.putfield 145, 3) := by decide +kernel
theorem dX10_drum_51 : decode cX10_drum 51 = .ok (.aload_n 0, 1) := by decide +kernel
theorem dX10_drum_52 : decode cX10_drum 52 = .ok (.iconst (-1), 1) := by decide +kernel
theorem dX10_drum_53 : decode cX10_drum 53 = .ok (.putfield 148, 3) := by decide +kernel
theorem dX10_drum_56 : decode cX10_drum 56 = .ok (.aload_n 0, 1) := by decide +kernel
theorem dX10_drum_57 : decode cX10_drum 57 = .ok (.iconst 0, 1) := by decide +kernel
theorem dX10_drum_58 : decode cX10_drum 58 = .ok (.putfield 194, 3) := by decide +kernel
theorem dX10_drum_61 : decode cX10_drum 61 = .ok (.aload_n 0, 1) := by decide +kernel
theorem dX10_drum_62 : decode cX10_drum 62 = .ok (.iconst 0, 1) := by decide +kernel
theorem dX10_drum_63 : decode cX10_drum 63 = .ok (.putfield 202, 3) := by decide +kernel
theorem dX10_drum_66 : decode cX10_drum 66 = .ok (.aload_n 0, 1) := by decide +kernel
theorem dX10_drum_67 : decode cX10_drum 67 = .ok (.iconst 0, 1) := by decide +kernel
theorem dX10_drum_68 : decode cX10_drum 68 = .ok (.putfield 205, 3) := by decide +kernel
theorem dX10_drum_71 : decode cX10_drum 71 = .ok (.aload_n 0, 1) := by decide +kernel
theorem dX10_drum_72 : decode cX10_drum 72 = .ok (.invokevirtual 155, 3) := by decide +kernel
theorem dX10_drum_75 : decode cX10_drum 75 = .ok (.aload_n 0, 1) := by decide +kernel
theorem dX10_drum_76 : decode cX10_drum 76 = .ok (.getfield 141, 3) := by decide +kernel
theorem dX10_drum_79 : decode cX10_drum 79 = .ok (.ifCond .ne 70, 3) := by decide +kernel
theorem dX10_drum_82 : decode cX10_drum 82 = .ok (.aload_n 0, 1) := by decide +kernel
theorem dX10_drum_83 : decode cX10_drum 83 = .ok (.getfield 116, 3) := by decide +kernel
theorem dX10_drum_86 : decode cX10_drum 86 = .ok (.ifCond .eq 63, 3) := by decide +kernel
theorem dX10_drum_89 : decode cX10_drum 89 = .ok (.aload_n 0, 1) := by decide +kernel
theorem dX10_drum_90 : decode cX10_drum 90 = .ok (.getfield 7, 3) := by decide +kernel
theorem dX10_drum_93 : decode cX10_drum 93 = .ok (.bipush 6, 2) := by decide +kernel
theorem dX10_drum_95 : decode cX10_drum 95 = .ok (.iaload, 1) := by decide +kernel
theorem dX10_drum_96 : decode cX10_drum 96 = .ok (.ifCond .ne 10, 3) := by decide +kernel
theorem dX10_drum_99 : decode cX10_drum 99 = .ok (.aload_n 0, 1) := by decide +kernel
theorem dX10_drum_100 : decode cX10_drum 100 = .ok (.invokevirtual 225, 3) := by decide +kernel
theorem dX10_drum_103 : decode cX10_drum 103 = .ok (.goto 7, 3) := by decide +kernel
theorem dX10_drum_106 : decode cX10_drum 106 = .ok (.aload_n 0, 1) := by decide +kernel
theorem dX10_drum_107 : decode cX10_drum 107 = .ok (.invokevirtual 228, 3) := by decide +kernel
theorem dX10_drum_110 : decode cX10_drum 110 = .ok (.aload_n 0, 1) := by decide +kernel
theorem dX10_drum_111 : decode cX10_drum 111 = .ok (.aload_n 0, 1) := by decide +kernel
theorem dX10_drum_112 : decode cX10_drum 112 = .ok (.getfield 141, 3) := by decide +kernel
theorem dX10_drum_115 : decode cX10_drum 115 = .ok (.ifCond .ne 12, 3) := by decide +kernel
theorem dX10_drum_118 : decode cX10_drum 118 = .ok (.aload_n 0, 1) := by decide +kernel
theorem dX10_drum_119 : decode cX10_drum 119 = .ok (.bipush 59, 2) := by decide +kernel
theorem dX10_drum_121 : decode cX10_drum 121 = .ok (.invokevirtual 214, 3) := by decide +kernel
theorem dX10_drum_124 : decode cX10_drum 124 = .ok (.ifCond .eq 7, 3) := by decide +kernel
theorem dX10_drum_127 : decode cX10_drum 127 = .ok (.iconst 1, 1) := by decide +kernel
theorem dX10_drum_128 : decode cX10_drum 128 = .ok (.goto 4, 3) := by decide +kernel
theorem dX10_drum_131 : decode cX10_drum 131 = .ok (.iconst 0, 1) := by decide +kernel
theorem dX10_drum_132 : decode cX10_drum 132 = .ok (.invokevirtual 158, 3) := by decide +kernel
theorem dX10_drum_135 : decode cX10_drum 135 = .ok (.aload_n 0, 1) := by decide +kernel
theorem dX10_drum_136 : decode cX10_drum 136 = .ok (.getfield 7, 3) := by decide +kernel
theorem dX10_drum_139 : decode cX10_drum 139 = .ok (.bipush 6, 2) := by decide +kernel
theorem dX10_drum_141 : decode cX10_drum 141 = .ok (.dup2, 1) := by decide +kernel
theorem dX10_drum_142 : decode cX10_drum 142 = .ok (.iaload, 1) := by decide +kernel
theorem dX10_drum_143 : decode cX10_drum 143 = .ok (.iconst 1, 1) := by decide +kernel
theorem dX10_drum_144 : decode cX10_drum 144 = .ok (.iadd, 1) := by decide +kernel
theorem dX10_drum_145 : decode cX10_drum 145 = .ok (.iastore, 1) := by decide +kernel
theorem dX10_drum_146 : decode cX10_drum 146 = .ok (.goto (-71), 3) := by decide +kernel
theorem dX10_drum_149 : decode cX10_drum 149 = .ok (.aload_n 0, 1) := by decide +kernel
theorem dX10_drum_150 : decode cX10_drum 150 = .ok (.invokevirtual 231, 3) := by decide +kernel
theorem dX10_drum_153 : decode cX10_drum 153 = .ok (.aload_n 0, 1) := by decide +kernel
theorem dX10_drum_154 : decode cX10_drum 154 = .ok (.iconst 0, 1) := by decide +kernel
theorem dX10_drum_155 : decode cX10_drum 155 = .ok (.putfield 93, 3) := by decide +kernel
theorem dX10_drum_158 : decode cX10_drum 158 = .ok (.aload_n 0, 1) := by decide +kernel
theorem dX10_drum_159 : decode cX10_drum 159 = .ok (.aload_n 0, 1) := by decide +kernel
theorem dX10_drum_160 : decode cX10_drum 160 = .ok (.getfield 145, 3) := by decide +kernel
theorem dX10_drum_163 : decode cX10_drum 163 = .ok (.putfield 234, 3) := by decide +kernel
theorem dX10_drum_166 : decode cX10_drum 166 = .ok (.aload_n 0, 1) := by decide +kernel
theorem dX10_drum_167 : decode cX10_drum 167 = .ok (.aload_n 0, 1) := by decide +kernel
theorem dX10_drum_168 : decode cX10_drum 168 = .ok (.getfield 148, 3) := by decide +kernel
theorem dX10_drum_171 : decode cX10_drum 171 = .ok (.putfield 22, 3) := by decide +kernel
theorem dX10_drum_174 : decode cX10_drum 174 = .ok (.aload_n 0, 1) := by decide +kernel
theorem dX10_drum_175 : decode cX10_drum 175 = .ok (.getfield 141, 3) := by decide +kernel
theorem dX10_drum_178 : decode cX10_drum 178 = .ok (.ifCond .eq 43, 3) := by decide +kernel
theorem dX10_drum_181 : decode cX10_drum 181 = .ok (.iconst 0, 1) := by decide +kernel
theorem dX10_drum_182 : decode cX10_drum 182 = .ok (.istore_n 1, 1) := by decide +kernel
theorem dX10_drum_183 : decode cX10_drum 183 = .ok (.iload_n 1, 1) := by decide +kernel
theorem dX10_drum_184 : decode cX10_drum 184 = .ok (.aload_n 0, 1) := by decide +kernel
theorem dX10_drum_185 : decode cX10_drum 185 = .ok (.getfield 7, 3) := by decide +kernel
theorem dX10_drum_188 : decode cX10_drum 188 = .ok (.arraylength, 1) := by decide +kernel
theorem dX10_drum_189 : decode cX10_drum 189 = .ok (.if_icmp .ge 21, 3) := by decide +kernel
theorem dX10_drum_192 : decode cX10_drum 192 = .ok (.aload_n 0, 1) := by decide +kernel
theorem dX10_drum_193 : decode cX10_drum 193 = .ok (.getfield 7, 3) := by decide +kernel
theorem dX10_drum_196 : decode cX10_drum 196 = .ok (.iload_n 1, 1) := by decide +kernel
theorem dX10_drum_197 : decode cX10_drum 197 = .ok (.aload_n 0, 1) := by decide +kernel
theorem dX10_drum_198 : decode cX10_drum 198 = .ok (.getfield 13, 3) := by decide +kernel
theorem dX10_drum_201 : decode cX10_drum 201 = .ok (.iload_n 1, 1) := by decide +kernel
theorem dX10_drum_202 : decode cX10_drum 202 = .ok (.iaload, 1) := by decide +kernel
theorem dX10_drum_203 : decode cX10_drum 203 = .ok (.iastore, 1) := by decide +kernel
theorem dX10_drum_204 : decode cX10_drum 204 = .ok (.iinc 1 1, 3) := by decide +kernel
theorem dX10_drum_207 : decode cX10_drum 207 = .ok (.goto (-24), 3) := by decide +kernel
theorem dX10_drum_210 : decode cX10_drum 210 = .ok (.aload_n 0, 1) := by decide +kernel
theorem dX10_drum_211 : decode cX10_drum 211 = .ok (.aload_n 0, 1) := by decide +kernel
theorem dX10_drum_212 : decode cX10_drum 212 = .ok (.invokevirtual 237, 3) := by decide +kernel
theorem dX10_drum_215 : decode cX10_drum 215 = .ok (.putfield 202, 3) := by decide +kernel
theorem dX10_drum_218 : decode cX10_drum 218 = .ok (.bipush (-4), 2) := by decide +kernel
theorem dX10_drum_220 : decode cX10_drum 220 = .ok (.ireturn, 1) := by decide +kernel
theorem dX10_drum_221 : decode cX10_drum 221 = .ok (.aload_n 0, 1) := by decide +kernel
theorem dX10_drum_222 : decode cX10_drum 222 = .ok (.getfield 7, 3) := by decide +kernel
theorem dX10_drum_225 : decode cX10_drum 225 = .ok (.bipush 8, 2) := by decide +kernel
theorem dX10_drum_227 : decode cX10_drum 227 = .ok (.iconst (-1), 1) := by decide +kernel
theorem dX10_drum_228 : decode cX10_drum 228 = .ok (.iastore, 1) := by decide +kernel
theorem dX10_drum_229 : decode cX10_drum 229 = .ok (.aload_n 0, 1) := by decide +kernel
theorem dX10_drum_230 : decode cX10_drum 230 = .ok (.getfield 7, 3) := by decide +kernel
theorem dX10_drum_233 : decode cX10_drum 233 = .ok (.iconst 5, 1) := by decide +kernel
theorem dX10_drum_234 : decode cX10_drum 234 = .ok (.iaload, 1) := by decide +kernel
theorem dX10_drum_235 : decode cX10_drum 235 = .ok (.iconst 1, 1) := by decide +kernel
theorem dX10_drum_236 : decode cX10_drum 236 = .ok (.isub, 1) := by decide +kernel
theorem dX10_drum_237 : decode cX10_drum 237 = .ok (.istore_n 1, 1) := by decide +kernel
theorem dX10_drum_238 : decode cX10_drum 238 = .ok (.iload_n 1, 1) := by decide +kernel
theorem dX10_drum_239 : decode cX10_drum 239 = .ok (.ifCond .lt 40, 3) := by decide +kernel
theorem dX10_drum_242 : decode cX10_drum 242 = .ok (.aload_n 0, 1) := by decide +kernel
theorem dX10_drum_243 : decode cX10_drum 243 = .ok (.getfield 7, 3) := by decide +kernel
theorem dX10_drum_246 : decode cX10_drum 246 = .ok (.bipush 8, 2) := by decide +kernel
theorem dX10_drum_248 : decode cX10_drum 248 = .ok (.aload_n 0, 1) := by decide +kernel
theorem dX10_drum_249 : decode cX10_drum 249 = .ok (.getfield 7, 3) := by decide +kernel
theorem dX10_drum_252 : decode cX10_drum 252 = .ok (.bipush 9, 2) := by decide +kernel
theorem dX10_drum_254 : decode cX10_drum 254 = .ok (.iload_n 1, 1) := by decide +kernel
theorem dX10_drum_255 : decode cX10_drum 255 = .ok (.iadd, 1) := by decide +kernel
theorem dX10_drum_256 : decode cX10_drum 256 = .ok (.iaload, 1) := by decide +kernel
theorem dX10_drum_257 : decode cX10_drum 257 = .ok (.iconst 1, 1) := by decide +kernel
theorem dX10_drum_258 : decode cX10_drum 258 = .ok (.if_icmp .ne 7, 3) := by decide +kernel
theorem dX10_drum_261 : decode cX10_drum 261 = .ok (.iload_n 1, 1) := by decide +kernel
theorem dX10_drum_262 : decode cX10_drum 262 = .ok (.goto 10, 3) := by decide +kernel
theorem dX10_drum_265 : decode cX10_drum 265 = .ok (.aload_n 0, 1) := by decide +kernel
theorem dX10_drum_266 : decode cX10_drum 266 = .ok (.getfield 7, 3) := by decide +kernel
theorem dX10_drum_269 : decode cX10_drum 269 = .ok (.bipush 8, 2) := by decide +kernel
theorem dX10_drum_271 : decode cX10_drum 271 = .ok (.iaload, 1) := by decide +kernel
theorem dX10_drum_272 : decode cX10_drum 272 = .ok (.iastore, 1) := by decide +kernel
theorem dX10_drum_273 : decode cX10_drum 273 = .ok (.iinc 1 (-1), 3) := by decide +kernel
theorem dX10_drum_276 : decode cX10_drum 276 = .ok (.goto (-38), 3) := by decide +kernel
theorem dX10_drum_279 : decode cX10_drum 279 = .ok (.aload_n 0, 1) := by decide +kernel
theorem dX10_drum_280 : decode cX10_drum 280 = .ok (.iconst 0, 1) := by decide +kernel
theorem dX10_drum_281 : decode cX10_drum 281 = .ok (.putfield 240, 3) := by decide +kernel
theorem dX10_drum_284 : decode cX10_drum 284 = .ok (.aload_n 0, 1) := by decide +kernel
theorem dX10_drum_285 : decode cX10_drum 285 = .ok (.iconst 0, 1) := by decide +kernel
theorem dX10_drum_286 : decode cX10_drum 286 = .ok (.invokevirtual 243, 3) := by decide +kernel
theorem dX10_drum_289 : decode cX10_drum 289 = .ok (.aload_n 0, 1) := by decide +kernel
theorem dX10_drum_290 : decode cX10_drum 290 = .ok (.invokevirtual 246, 3) := by decide +kernel
theorem dX10_drum_293 : decode cX10_drum 293 = .ok (.aload_n 0, 1) := by decide +kernel
theorem dX10_drum_294 : decode cX10_drum 294 = .ok (.getfield 7, 3) := by decide +kernel
theorem dX10_drum_297 : decode cX10_drum 297 = .ok (.bipush 6, 2) := by decide +kernel
theorem dX10_drum_299 : decode cX10_drum 299 = .ok (.iaload, 1) := by decide +kernel
theorem dX10_drum_300 : decode cX10_drum 300 = .ok (.ireturn, 1) := by decide +kernel
theorem dX10_wordsOf_0 : decode cX10_wordsOf 0 = .ok (.iconst 0, 1) := by decide +kernel
theorem dX10_wordsOf_1 : decode cX10_wordsOf 1 = .ok (.istore_n 1, 1) := by decide +kernel
theorem dX10_wordsOf_2 : decode cX10_wordsOf 2 = .ok (.iconst 0, 1) := by decide +kernel
theorem dX10_wordsOf_3 : decode cX10_wordsOf 3 = .ok (.istore_n 2, 1) := by decide +kernel
theorem dX10_wordsOf_4 : decode cX10_wordsOf 4 = .ok (.iload_n 2, 1) := by decide +kernel
theorem dX10_wordsOf_5 : decode cX10_wordsOf 5 = .ok (.aload_n 0, 1) := by decide +kernel
theorem dX10_wordsOf_6 : decode cX10_wordsOf 6 = .ok (.getfield 7, 3) := by decide +kernel
theorem dX10_wordsOf_9 : decode cX10_wordsOf 9 = .ok (.iconst 5, 1) := by decide +kernel
theorem dX10_wordsOf_10 : decode cX10_wordsOf 10 = .ok (.iaload, 1) := by decide +kernel
theorem dX10_wordsOf_11 : decode cX10_wordsOf 11 = .ok (.if_icmp .ge 23, 3) := by decide +kernel
theorem dX10_wordsOf_14 : decode cX10_wordsOf 14 = .ok (.iload_n 1, 1) := by decide +kernel
theorem dX10_wordsOf_15 : decode cX10_wordsOf 15 = .ok (.iconst 1, 1) := by decide +kernel
theorem dX10_wordsOf_16 : decode cX10_wordsOf 16 = .ok (.aload_n 0, 1) := by decide +kernel
theorem dX10_wordsOf_17 : decode cX10_wordsOf 17 = .ok (.getfield 7, 3) := by decide +kernel
theorem dX10_wordsOf_20 : decode cX10_wordsOf 20 = .ok (.bipush 9, 2) := by decide +kernel
theorem dX10_wordsOf_22 : decode cX10_wordsOf 22 = .ok (.iload_n 2, 1) := by decide +kernel
theorem dX10_wordsOf_23 : decode cX10_wordsOf 23 = .ok (.iadd, 1) := by decide +kernel
theorem dX10_wordsOf_24 : decode cX10_wordsOf 24 = .ok (.iaload, 1) := by decide +kernel
theorem dX10_wordsOf_25 : decode cX10_wordsOf 25 = .ok (.isub, 1) := by decide +kernel
theorem dX10_wordsOf_26 : decode cX10_wordsOf 26 = .ok (.iadd, 1) := by decide +kernel
theorem dX10_wordsOf_27 : decode cX10_wordsOf 27 = .ok (.istore_n 1, 1) := by decide +kernel
theorem dX10_wordsOf_28 : decode cX10_wordsOf 28 = .ok (.iinc 2 1, 3) := by decide +kernel
theorem dX10_wordsOf_31 : decode cX10_wordsOf 31 = .ok (.goto (-27), 3) := by decide +kernel
theorem dX10_wordsOf_34 : decode cX10_wordsOf 34 = .ok (.iload_n 1, 1) := by decide +kernel
theorem dX10_wordsOf_35 : decode cX10_wordsOf 35 = .ok (.ireturn, 1) := by decide +kernel
theorem dX10_fault_0 : decode cX10_fault 0 = .ok (.iload_n 1, 1) := by decide +kernel
theorem dX10_fault_1 : decode cX10_fault 1 = .ok (.ifCond .ne 10, 3) := by decide +kernel
theorem dX10_fault_4 : decode cX10_fault 4 = .ok (.aload_n 0, 1) := by decide +kernel
theorem dX10_fault_5 : decode cX10_fault 5 = .ok (.getfield 234, 3) := by decide +kernel
theorem dX10_fault_8 : decode cX10_fault 8 = .ok (.goto 16, 3) := by decide +kernel
theorem dX10_fault_11 : decode cX10_fault 11 = .ok (.iload_n 1, 1) := by decide +kernel
theorem dX10_fault_12 : decode cX10_fault 12 = .ok (.iconst 1, 1) := by decide +kernel
theorem dX10_fault_13 : decode cX10_fault 13 = .ok (.if_icmp .ne 10, 3) := by decide +kernel
theorem dX10_fault_16 : decode cX10_fault 16 = .ok (.aload_n 0, 1) := by decide +kernel
theorem dX10_fault_17 : decode cX10_fault 17 = .ok (.getfield 22, 3) := by decide +kernel
theorem dX10_fault_20 : decode cX10_fault 20 = .ok (.goto 4, 3) := by decide +kernel
theorem dX10_fault_23 : decode cX10_fault 23 = .ok (.iconst (-1), 1) := by decide +kernel
theorem dX10_fault_24 : decode cX10_fault 24 = .ok (.ireturn, 1) := by decide +kernel
theorem dX10_freeItems_0 : decode cX10_freeItems 0 = .ok (.iconst 0, 1) := by decide +kernel
theorem dX10_freeItems_1 : decode cX10_freeItems 1 = .ok (.istore_n 1, 1) := by decide +kernel
theorem dX10_freeItems_2 : decode cX10_freeItems 2 = .ok (.iconst 0, 1) := by decide +kernel
theorem dX10_freeItems_3 : decode cX10_freeItems 3 = .ok (.istore_n 2, 1) := by decide +kernel
theorem dX10_freeItems_4 : decode cX10_freeItems 4 = .ok (.iload_n 2, 1) := by decide +kernel
theorem dX10_freeItems_5 : decode cX10_freeItems 5 = .ok (.aload_n 0, 1) := by decide +kernel
theorem dX10_freeItems_6 : decode cX10_freeItems 6 = .ok (.getfield 7, 3) := by decide +kernel
theorem dX10_freeItems_9 : decode cX10_freeItems 9 = .ok (.iconst 5, 1) := by decide +kernel
theorem dX10_freeItems_10 : decode cX10_freeItems 10 = .ok (.iaload, 1) := by decide +kernel
theorem dX10_freeItems_11 : decode cX10_freeItems 11 = .ok (.if_icmp .ge 31, 3) := by decide +kernel
theorem dX10_freeItems_14 : decode cX10_freeItems 14 = .ok (.iload_n 1, 1) := by decide +kernel
theorem dX10_freeItems_15 : decode cX10_freeItems 15 = .ok (.aload_n 0, 1) := by decide +kernel
theorem dX10_freeItems_16 : decode cX10_freeItems 16 = .ok (.getfield 7, 3) := by decide +kernel
theorem dX10_freeItems_19 : decode cX10_freeItems 19 = .ok (.sipush 129, 3) := by decide +kernel
theorem dX10_freeItems_22 : decode cX10_freeItems 22 = .ok (.iload_n 2, 1) := by decide +kernel
theorem dX10_freeItems_23 : decode cX10_freeItems 23 = .ok (.iadd, 1) := by decide +kernel
theorem dX10_freeItems_24 : decode cX10_freeItems 24 = .ok (.iaload, 1) := by decide +kernel
theorem dX10_freeItems_25 : decode cX10_freeItems 25 = .ok (.iconst (-1), 1) := by decide +kernel
theorem dX10_freeItems_26 : decode cX10_freeItems 26 = .ok (.if_icmp .ne 7, 3) := by decide +kernel
theorem dX10_freeItems_29 : decode cX10_freeItems 29 = .ok (.iconst 1, 1) := by decide +kernel
theorem dX10_freeItems_30 : decode cX10_freeItems 30 = .ok (.goto 4, 3) := by decide +kernel
theorem dX10_freeItems_33 : decode cX10_freeItems 33 = .ok (.iconst 0, 1) := by decide +kernel
theorem dX10_freeItems_34 : decode cX10_freeItems 34 = .ok (.iadd, 1) := by decide +kernel
theorem dX10_freeItems_35 : decode cX10_freeItems 35 = .ok (.istore_n 1, 1) := by decide +kernel
theorem dX10_freeItems_36 : decode cX10_freeItems 36 = .ok (.iinc 2 1, 3) := by decide +kernel
theorem dX10_freeItems_39 : decode cX10_freeItems 39 = .ok (.goto (-35), 3) := by decide +kernel
theorem dX10_freeItems_42 : decode cX10_freeItems 42 = .ok (.iload_n 1, 1) := by decide +kernel
theorem dX10_freeItems_43 : decode cX10_freeItems 43 = .ok (.ireturn, 1) := by decide +kernel
theorem dX10_count_0 : decode cX10_count 0 = .ok (.iload_n 1, 1) := by decide +kernel
theorem dX10_count_1 : decode cX10_count 1 = .ok (.tableswitch 109 0 10 #[59, 59, 59, 59, 59, 66, 71, 83, 88, 96, 104], 59) := by decide +kernel
theorem dX10_count_60 : decode cX10_count 60 = .ok (.aload_n 0, 1) := by decide +kernel
theorem dX10_count_61 : decode cX10_count 61 = .ok (.getfield 7, 3) := by decide +kernel
theorem dX10_count_64 : decode cX10_count 64 = .ok (.iload_n 1, 1) := by decide +kernel
theorem dX10_count_65 : decode cX10_count 65 = .ok (.iaload, 1) := by decide +kernel
theorem dX10_count_66 : decode cX10_count 66 = .ok (.ireturn, 1) := by decide +kernel
theorem dX10_count_67 : decode cX10_count 67 = .ok (.aload_n 0, 1) := by decide +kernel
theorem dX10_count_68 : decode cX10_count 68 = .ok (.invokevirtual 237, 3) := by decide +kernel
theorem dX10_count_71 : decode cX10_count 71 = .ok (.ireturn, 1) := by decide +kernel
theorem dX10_count_72 : decode cX10_count 72 = .ok (.aload_n 0, 1) := by decide +kernel
theorem dX10_count_73 : decode cX10_count 73 = .ok (.getfield 7, 3) := by decide +kernel
theorem dX10_count_76 : decode cX10_count 76 = .ok (.iconst 5, 1) := by decide +kernel
theorem dX10_count_77 : decode cX10_count 77 = .ok (.iaload, 1) := by decide +kernel
theorem dX10_count_78 : decode cX10_count 78 = .ok (.aload_n 0, 1) := by decide +kernel
theorem dX10_count_79 : decode cX10_count 79 = .ok (.invokevirtual 237, 3) := by decide +kernel
theorem dX10_count_82 : decode cX10_count 82 = .ok (.isub, 1) := by decide +kernel
theorem dX10_count_83 : decode cX10_count 83 = .ok (.ireturn, 1) := by decide +kernel
theorem dX10_count_84 : decode cX10_count 84 = .ok (.aload_n 0, 1) := by decide +kernel
theorem dX10_count_85 : decode cX10_count 85 = .ok (.invokevirtual 249, 3) := by decide +kernel
theorem dX10_count_88 : decode cX10_count 88 = .ok (.ireturn, 1) := by decide +kernel
theorem dX10_count_89 : decode cX10_count 89 = .ok (.aload_n 0, 1) := by decide +kernel
theorem dX10_count_90 : decode cX10_count 90 = .ok (.getfield 7, 3) := by decide +kernel
theorem dX10_count_93 : decode cX10_count 93 = .ok (.bipush 7, 2) := by decide +kernel
theorem dX10_count_95 : decode cX10_count 95 = .ok (.iaload, 1) := by decide +kernel
theorem dX10_count_96 : decode cX10_count 96 = .ok (.ireturn, 1) := by decide +kernel
theorem dX10_count_97 : decode cX10_count 97 = .ok (.aload_n 0, 1) := by decide +kernel
theorem dX10_count_98 : decode cX10_count 98 = .ok (.getfield 7, 3) := by decide +kernel
theorem dX10_count_101 : decode cX10_count 101 = .ok (.bipush 6, 2) := by decide +kernel
theorem dX10_count_103 : decode cX10_count 103 = .ok (.iaload, 1) := by decide +kernel
theorem dX10_count_104 : decode cX10_count 104 = .ok (.ireturn, 1) := by decide +kernel
theorem dX10_count_105 : decode cX10_count 105 = .ok (.aload_n 0, 1) := by decide +kernel
theorem dX10_count_106 : decode cX10_count 106 = .ok (.getfield 93, 3) := by decide +kernel
theorem dX10_count_109 : decode cX10_count 109 = .ok (.ireturn, 1) := by decide +kernel
theorem dX10_count_110 : decode cX10_count 110 = .ok (.iconst (-1), 1) := by decide +kernel
theorem dX10_count_111 : decode cX10_count 111 = .ok (.ireturn, 1) := by decide +kernel
theorem dX10_isItem_0 : decode cX10_isItem 0 = .ok (.iload_n 1, 1) := by decide +kernel
theorem dX10_isItem_1 : decode cX10_isItem 1 = .ok (.i2l, 1) := by decide +kernel
theorem dX10_isItem_2 : decode cX10_isItem 2 = .ok (.lconst 0, 1) := by decide +kernel
theorem dX10_isItem_3 : decode cX10_isItem 3 = .ok (.aload_n 0, 1) := by decide +kernel
theorem dX10_isItem_4 : decode cX10_isItem 4 = .ok (.getfield 7, 3) := by decide +kernel
theorem dX10_isItem_7 : decode cX10_isItem 7 = .ok (.iconst 5, 1) := by decide +kernel
theorem dX10_isItem_8 : decode cX10_isItem 8 = .ok (.iaload, 1) := by decide +kernel
theorem dX10_isItem_9 : decode cX10_isItem 9 = .ok (.iconst 1, 1) := by decide +kernel
theorem dX10_isItem_10 : decode cX10_isItem 10 = .ok (.isub, 1) := by decide +kernel
theorem dX10_isItem_11 : decode cX10_isItem 11 = .ok (.i2l, 1) := by decide +kernel
theorem dX10_isItem_12 : decode cX10_isItem 12 = .ok (.invokestatic 96, 3) := by decide +kernel
theorem dX10_isItem_15 : decode cX10_isItem 15 = .ok (.ireturn, 1) := by decide +kernel
theorem dX10_item_0 : decode cX10_item 0 = .ok (.aload_n 0, 1) := by decide +kernel
theorem dX10_item_1 : decode cX10_item 1 = .ok (.iload_n 1, 1) := by decide +kernel
theorem dX10_item_2 : decode cX10_item 2 = .ok (.invokevirtual 252, 3) := by decide +kernel
theorem dX10_item_5 : decode cX10_item 5 = .ok (.ifCond .ne 6, 3) := by decide +kernel
theorem dX10_item_8 : decode cX10_item 8 = .ok (.bipush (-2), 2) := by decide +kernel
theorem dX10_item_10 : decode cX10_item 10 = .ok (.ireturn, 1) := by decide +kernel
theorem dX10_item_11 : decode cX10_item 11 = .ok (.iload_n 2, 1) := by decide +kernel
theorem dX10_item_12 : decode cX10_item 12 = .ok (.tableswitch 100 0 3 #[32, 42, 53, 73], 32) := by decide +kernel
theorem dX10_item_44 : decode cX10_item 44 = .ok (.aload_n 0, 1) := by decide +kernel
theorem dX10_item_45 : decode cX10_item 45 = .ok (.getfield 7, 3) := by decide +kernel
theorem dX10_item_48 : decode cX10_item 48 = .ok (.bipush 9, 2) := by decide +kernel
theorem dX10_item_50 : decode cX10_item 50 = .ok (.iload_n 1, 1) := by decide +kernel
theorem dX10_item_51 : decode cX10_item 51 = .ok (.iadd, 1) := by decide +kernel
theorem dX10_item_52 : decode cX10_item 52 = .ok (.iaload, 1) := by decide +kernel
theorem dX10_item_53 : decode cX10_item 53 = .ok (.ireturn, 1) := by decide +kernel
theorem dX10_item_54 : decode cX10_item 54 = .ok (.aload_n 0, 1) := by decide +kernel
theorem dX10_item_55 : decode cX10_item 55 = .ok (.getfield 7, 3) := by decide +kernel
theorem dX10_item_58 : decode cX10_item 58 = .ok (.sipush 149, 3) := by decide +kernel
theorem dX10_item_61 : decode cX10_item 61 = .ok (.iload_n 1, 1) := by decide +kernel
theorem dX10_item_62 : decode cX10_item 62 = .ok (.iadd, 1) := by decide +kernel
theorem dX10_item_63 : decode cX10_item 63 = .ok (.iaload, 1) := by decide +kernel
theorem dX10_item_64 : decode cX10_item 64 = .ok (.ireturn, 1) := by decide +kernel
theorem dX10_item_65 : decode cX10_item 65 = .ok (.aload_n 0, 1) := by decide +kernel
theorem dX10_item_66 : decode cX10_item 66 = .ok (.getfield 7, 3) := by decide +kernel
theorem dX10_item_69 : decode cX10_item 69 = .ok (.sipush 129, 3) := by decide +kernel
theorem dX10_item_72 : decode cX10_item 72 = .ok (.iload_n 1, 1) := by decide +kernel
theorem dX10_item_73 : decode cX10_item 73 = .ok (.iadd, 1) := by decide +kernel
theorem dX10_item_74 : decode cX10_item 74 = .ok (.iaload, 1) := by decide +kernel
theorem dX10_item_75 : decode cX10_item 75 = .ok (.iconst (-1), 1) := by decide +kernel
theorem dX10_item_76 : decode cX10_item 76 = .ok (.if_icmp .ne 7, 3) := by decide +kernel
theorem dX10_item_79 : decode cX10_item 79 = .ok (.iconst 0, 1) := by decide +kernel
theorem dX10_item_80 : decode cX10_item 80 = .ok (.goto 4, 3) := by decide +kernel
theorem dX10_item_83 : decode cX10_item 83 = .ok (.iconst 1, 1) := by decide +kernel
theorem dX10_item_84 : decode cX10_item 84 = .ok (.ireturn, 1) := by decide +kernel
theorem dX10_item_85 : decode cX10_item 85 = .ok (.aload_n 0, 1) := by decide +kernel
theorem dX10_item_86 : decode cX10_item 86 = .ok (.getfield 7, 3) := by decide +kernel
theorem dX10_item_89 : decode cX10_item 89 = .ok (.bipush 9, 2) := by decide +kernel
theorem dX10_item_91 : decode cX10_item 91 = .ok (.iload_n 1, 1) := by decide +kernel
theorem dX10_item_92 : decode cX10_item 92 = .ok (.iadd, 1) := by decide +kernel
theorem dX10_item_93 : decode cX10_item 93 = .ok (.iaload, 1) := by decide +kernel
theorem dX10_item_94 : decode cX10_item 94 = .ok (.iconst 1, 1) := by decide +kernel
theorem dX10_item_95 : decode cX10_item 95 = .ok (.if_icmp .ne 15, 3) := by decide +kernel
theorem dX10_item_98 : decode cX10_item 98 = .ok (.aload_n 0, 1) := by decide +kernel
theorem dX10_item_99 : decode cX10_item 99 = .ok (.getfield 7, 3) := by decide +kernel
theorem dX10_item_102 : decode cX10_item 102 = .ok (.bipush 49, 2) := by decide +kernel
theorem dX10_item_104 : decode cX10_item 104 = .ok (.iload_n 1, 1) := by decide +kernel
theorem dX10_item_105 : decode cX10_item 105 = .ok (.iadd, 1) := by decide +kernel
theorem dX10_item_106 : decode cX10_item 106 = .ok (.iaload, 1) := by decide +kernel
theorem dX10_item_107 : decode cX10_item 107 = .ok (.goto 4, 3) := by decide +kernel
theorem dX10_item_110 : decode cX10_item 110 = .ok (.iconst (-1), 1) := by decide +kernel
theorem dX10_item_111 : decode cX10_item 111 = .ok (.ireturn, 1) := by decide +kernel
theorem dX10_item_112 : decode cX10_item 112 = .ok (.bipush (-2), 2) := by decide +kernel
theorem dX10_item_114 : decode cX10_item 114 = .ok (.ireturn, 1) := by decide +kernel
theorem dX10_itemAt_0 : decode cX10_itemAt 0 = .ok (.iconst 0, 1) := by decide +kernel
theorem dX10_itemAt_1 : decode cX10_itemAt 1 = .ok (.istore_n 2, 1) := by decide +kernel
theorem dX10_itemAt_2 : decode cX10_itemAt 2 = .ok (.iload_n 2, 1) := by decide +kernel
theorem dX10_itemAt_3 : decode cX10_itemAt 3 = .ok (.aload_n 0, 1) := by decide +kernel
theorem dX10_itemAt_4 : decode cX10_itemAt 4 = .ok (.getfield 7, 3) := by decide +kernel
theorem dX10_itemAt_7 : decode cX10_itemAt 7 = .ok (.iconst 5, 1) := by decide +kernel
theorem dX10_itemAt_8 : decode cX10_itemAt 8 = .ok (.iaload, 1) := by decide +kernel
theorem dX10_itemAt_9 : decode cX10_itemAt 9 = .ok (.if_icmp .ge 25, 3) := by decide +kernel
theorem dX10_itemAt_12 : decode cX10_itemAt 12 = .ok (.aload_n 0, 1) := by decide +kernel
theorem dX10_itemAt_13 : decode cX10_itemAt 13 = .ok (.getfield 7, 3) := by decide +kernel
theorem dX10_itemAt_16 : decode cX10_itemAt 16 = .ok (.sipush 149, 3) := by decide +kernel
theorem dX10_itemAt_19 : decode cX10_itemAt 19 = .ok (.iload_n 2, 1) := by decide +kernel
theorem dX10_itemAt_20 : decode cX10_itemAt 20 = .ok (.iadd, 1) := by decide +kernel
theorem dX10_itemAt_21 : decode cX10_itemAt 21 = .ok (.iaload, 1) := by decide +kernel
theorem dX10_itemAt_22 : decode cX10_itemAt 22 = .ok (.iload_n 1, 1) := by decide +kernel
theorem dX10_itemAt_23 : decode cX10_itemAt 23 = .ok (.if_icmp .ne 5, 3) := by decide +kernel
theorem dX10_itemAt_26 : decode cX10_itemAt 26 = .ok (.iload_n 2, 1) := by decide +kernel
theorem dX10_itemAt_27 : decode cX10_itemAt 27 = .ok (.ireturn, 1) := by decide +kernel
theorem dX10_itemAt_28 : decode cX10_itemAt 28 = .ok (.iinc 2 1, 3) := by decide +kernel
theorem dX10_itemAt_31 : decode cX10_itemAt 31 = .ok (.goto (-29), 3) := by decide +kernel
theorem dX10_itemAt_34 : decode cX10_itemAt 34 = .ok (.iconst (-1), 1) := by decide +kernel
theorem dX10_itemAt_35 : decode cX10_itemAt 35 = .ok (.ireturn, 1) := by decide +kernel
theorem dX10_at_0 : decode cX10_at 0 = .ok (.iload_n 1, 1) := by decide +kernel
theorem dX10_at_1 : decode cX10_at 1 = .ok (.i2l, 1) := by decide +kernel
theorem dX10_at_2 : decode cX10_at 2 = .ok (.lconst 0, 1) := by decide +kernel
theorem dX10_at_3 : decode cX10_at 3 = .ok (.aload_n 0, 1) := by decide +kernel
theorem dX10_at_4 : decode cX10_at 4 = .ok (.invokevirtual 218, 3) := by decide +kernel
theorem dX10_at_7 : decode cX10_at 7 = .ok (.iconst 1, 1) := by decide +kernel
theorem dX10_at_8 : decode cX10_at 8 = .ok (.isub, 1) := by decide +kernel
theorem dX10_at_9 : decode cX10_at 9 = .ok (.i2l, 1) := by decide +kernel
theorem dX10_at_10 : decode cX10_at 10 = .ok (.invokestatic 96, 3) := by decide +kernel
theorem dX10_at_13 : decode cX10_at 13 = .ok (.ifCond .eq 11, 3) := by decide +kernel
theorem dX10_at_16 : decode cX10_at 16 = .ok (.aload_n 0, 1) := by decide +kernel
theorem dX10_at_17 : decode cX10_at 17 = .ok (.iload_n 1, 1) := by decide +kernel
theorem dX10_at_18 : decode cX10_at 18 = .ok (.invokevirtual 255, 3) := by decide +kernel
theorem dX10_at_21 : decode cX10_at 21 = .ok (.goto 5, 3) := by decide +kernel
theorem dX10_at_24 : decode cX10_at 24 = .ok (.bipush (-2), 2) := by decide +kernel
theorem dX10_at_26 : decode cX10_at 26 = .ok (.ireturn, 1) := by decide +kernel
theorem dX10_rounded_0 : decode cX10_rounded 0 = .ok (.iload_n 0, 1) := by decide +kernel
theorem dX10_rounded_1 : decode cX10_rounded 1 = .ok (.sipush 10000, 3) := by decide +kernel
theorem dX10_rounded_4 : decode cX10_rounded 4 = .ok (.iadd, 1) := by decide +kernel
theorem dX10_rounded_5 : decode cX10_rounded 5 = .ok (.sipush 20000, 3) := by decide +kernel
theorem dX10_rounded_8 : decode cX10_rounded 8 = .ok (.invokestatic 258, 3) := by decide +kernel
theorem dX10_rounded_11 : decode cX10_rounded 11 = .ok (.sipush 10000, 3) := by decide +kernel
theorem dX10_rounded_14 : decode cX10_rounded 14 = .ok (.isub, 1) := by decide +kernel
theorem dX10_rounded_15 : decode cX10_rounded 15 = .ok (.ireturn, 1) := by decide +kernel
theorem dX10_reading_0 : decode cX10_reading 0 = .ok (.aload_n 0, 1) := by decide +kernel
theorem dX10_reading_1 : decode cX10_reading 1 = .ok (.getfield 45, 3) := by decide +kernel
theorem dX10_reading_4 : decode cX10_reading 4 = .ok (.aload_n 0, 1) := by decide +kernel
theorem dX10_reading_5 : decode cX10_reading 5 = .ok (.getfield 261, 3) := by decide +kernel
theorem dX10_reading_8 : decode cX10_reading 8 = .ok (.iload_n 1, 1) := by decide +kernel
theorem dX10_reading_9 : decode cX10_reading 9 = .ok (.iastore, 1) := by decide +kernel
theorem dX10_reading_10 : decode cX10_reading 10 = .ok (.aload_n 0, 1) := by decide +kernel
theorem dX10_reading_11 : decode cX10_reading 11 = .ok (.getfield 48, 3) := by decide +kernel
theorem dX10_reading_14 : decode cX10_reading 14 = .ok (.aload_n 0, 1) := by decide +kernel
theorem dX10_reading_15 : decode cX10_reading 15 = .ok (.getfield 261, 3) := by decide +kernel
theorem dX10_reading_18 : decode cX10_reading 18 = .ok (.iload_n 2, 1) := by decide +kernel
theorem dX10_reading_19 : decode cX10_reading 19 = .ok (.iastore, 1) := by decide +kernel
theorem dX10_reading_20 : decode cX10_reading 20 = .ok (.aload_n 0, 1) := by decide +kernel
theorem dX10_reading_21 : decode cX10_reading 21 = .ok (.dup, 1) := by decide +kernel
theorem dX10_reading_22 : decode cX10_reading 22 = .ok (.getfield 261, 3) := by decide +kernel
theorem dX10_reading_25 : decode cX10_reading 25 = .ok (.iconst 1, 1) := by decide +kernel
theorem dX10_reading_26 : decode cX10_reading 26 = .ok (.iadd, 1) := by decide +kernel
theorem dX10_reading_27 : decode cX10_reading 27 = .ok (.putfield 261, 3) := by decide +kernel
theorem dX10_reading_30 : decode cX10_reading 30 = .ok (.return_, 1) := by decide +kernel
theorem dX10_hasRun_0 : decode cX10_hasRun 0 = .ok (.aload_n 0, 1) := by decide +kernel
theorem dX10_hasRun_1 : decode cX10_hasRun 1 = .ok (.getfield 7, 3) := by decide +kernel
theorem dX10_hasRun_4 : decode cX10_hasRun 4 = .ok (.bipush 6, 2) := by decide +kernel
theorem dX10_hasRun_6 : decode cX10_hasRun 6 = .ok (.iaload, 1) := by decide +kernel
theorem dX10_hasRun_7 : decode cX10_hasRun 7 = .ok (.ifCond .le 18, 3) := by decide +kernel
theorem dX10_hasRun_10 : decode cX10_hasRun 10 = .ok (.aload_n 0, 1) := by decide +kernel
theorem dX10_hasRun_11 : decode cX10_hasRun 11 = .ok (.getfield 7, 3) := by decide +kernel
theorem dX10_hasRun_14 : decode cX10_hasRun 14 = .ok (.bipush 8, 2) := by decide +kernel
theorem dX10_hasRun_16 : decode cX10_hasRun 16 = .ok (.iaload, 1) := by decide +kernel
theorem dX10_hasRun_17 : decode cX10_hasRun 17 = .ok (.iconst (-1), 1) := by decide +kernel
theorem dX10_hasRun_18 : decode cX10_hasRun 18 = .ok (.if_icmp .eq 7, 3) := by decide +kernel
theorem dX10_hasRun_21 : decode cX10_hasRun 21 = .ok (.iconst 1, 1) := by decide +kernel
theorem dX10_hasRun_22 : decode cX10_hasRun 22 = .ok (.goto 4, 3) := by decide +kernel
theorem dX10_hasRun_25 : decode cX10_hasRun 25 = .ok (.iconst 0, 1) := by decide +kernel
theorem dX10_hasRun_26 : decode cX10_hasRun 26 = .ok (.ireturn, 1) := by decide +kernel
theorem dX10_runs_0 : decode cX10_runs 0 = .ok (.iconst 0, 1) := by decide +kernel
theorem dX10_runs_1 : decode cX10_runs 1 = .ok (.istore_n 1, 1) := by decide +kernel
theorem dX10_runs_2 : decode cX10_runs 2 = .ok (.iload_n 1, 1) := by decide +kernel
theorem dX10_runs_3 : decode cX10_runs 3 = .ok (.bipush 20, 2) := by decide +kernel
theorem dX10_runs_5 : decode cX10_runs 5 = .ok (.if_icmp .ge 39, 3) := by decide +kernel
theorem dX10_runs_8 : decode cX10_runs 8 = .ok (.aload_n 0, 1) := by decide +kernel
theorem dX10_runs_9 : decode cX10_runs 9 = .ok (.getfield 66, 3) := by decide +kernel
theorem dX10_runs_12 : decode cX10_runs 12 = .ok (.iload_n 1, 1) := by decide +kernel
theorem dX10_runs_13 : decode cX10_runs 13 = .ok (.aload_n 0, 1) := by decide +kernel
theorem dX10_runs_14 : decode cX10_runs 14 = .ok (.getfield 7, 3) := by decide +kernel
theorem dX10_runs_17 : decode cX10_runs 17 = .ok (.bipush 29, 2) := by decide +kernel
theorem dX10_runs_19 : decode cX10_runs 19 = .ok (.iload_n 1, 1) := by decide +kernel
theorem dX10_runs_20 : decode cX10_runs 20 = .ok (.iadd, 1) := by decide +kernel
theorem dX10_runs_21 : decode cX10_runs 21 = .ok (.iaload, 1) := by decide +kernel
theorem dX10_runs_22 : decode cX10_runs 22 = .ok (.iastore, 1) := by decide +kernel
theorem dX10_runs_23 : decode cX10_runs 23 = .ok (.aload_n 0, 1) := by decide +kernel
theorem dX10_runs_24 : decode cX10_runs 24 = .ok (.getfield 69, 3) := by decide +kernel
theorem dX10_runs_27 : decode cX10_runs 27 = .ok (.iload_n 1, 1) := by decide +kernel
theorem dX10_runs_28 : decode cX10_runs 28 = .ok (.aload_n 0, 1) := by decide +kernel
theorem dX10_runs_29 : decode cX10_runs 29 = .ok (.getfield 7, 3) := by decide +kernel
theorem dX10_runs_32 : decode cX10_runs 32 = .ok (.bipush 69, 2) := by decide +kernel
theorem dX10_runs_34 : decode cX10_runs 34 = .ok (.iload_n 1, 1) := by decide +kernel
theorem dX10_runs_35 : decode cX10_runs 35 = .ok (.iadd, 1) := by decide +kernel
theorem dX10_runs_36 : decode cX10_runs 36 = .ok (.iaload, 1) := by decide +kernel
theorem dX10_runs_37 : decode cX10_runs 37 = .ok (.iastore, 1) := by decide +kernel
theorem dX10_runs_38 : decode cX10_runs 38 = .ok (.iinc 1 1, 3) := by decide +kernel
theorem dX10_runs_41 : decode cX10_runs 41 = .ok (.goto (-39), 3) := by decide +kernel
theorem dX10_runs_44 : decode cX10_runs 44 = .ok (.aload_n 0, 1) := by decide +kernel
theorem dX10_runs_45 : decode cX10_runs 45 = .ok (.iconst 0, 1) := by decide +kernel
theorem dX10_runs_46 : decode cX10_runs 46 = .ok (.putfield 261, 3) := by decide +kernel
theorem dX10_runs_49 : decode cX10_runs 49 = .ok (.aload_n 0, 1) := by decide +kernel
theorem dX10_runs_50 : decode cX10_runs 50 = .ok (.iconst 0, 1) := by decide +kernel
theorem dX10_runs_51 : decode cX10_runs 51 = .ok (.putfield 263, 3) := by decide +kernel
theorem dX10_runs_54 : decode cX10_runs 54 = .ok (.aload_n 0, 1) := by decide +kernel
theorem dX10_runs_55 : decode cX10_runs 55 = .ok (.iconst 0, 1) := by decide +kernel
theorem dX10_runs_56 : decode cX10_runs 56 = .ok (.putfield 266, 3) := by decide +kernel
theorem dX10_runs_59 : decode cX10_runs 59 = .ok (.aload_n 0, 1) := by decide +kernel
theorem dX10_runs_60 : decode cX10_runs 60 = .ok (.iconst 0, 1) := by decide +kernel
theorem dX10_runs_61 : decode cX10_runs 61 = .ok (.putfield 269, 3) := by decide +kernel
theorem dX10_runs_64 : decode cX10_runs 64 = .ok (.aload_n 0, 1) := by decide +kernel
theorem dX10_runs_65 : decode cX10_runs 65 = .ok (.getfield 7, 3) := by decide +kernel
theorem dX10_runs_68 : decode cX10_runs 68 = .ok (.bipush 8, 2) := by decide +kernel
theorem dX10_runs_70 : decode cX10_runs 70 = .ok (.iaload, 1) := by decide +kernel
theorem dX10_runs_71 : decode cX10_runs 71 = .ok (.istore_n 1, 1) := by decide +kernel
theorem dX10_runs_72 : decode cX10_runs 72 = .ok (.iconst 0, 1) := by decide +kernel
theorem dX10_runs_73 : decode cX10_runs 73 = .ok (.istore_n 2, 1) := by decide +kernel
theorem dX10_runs_74 : decode cX10_runs 74 = .ok (.aload_n 0, 1) := by decide +kernel
theorem dX10_runs_75 : decode cX10_runs 75 = .ok (.getfield 269, 3) := by decide +kernel
theorem dX10_runs_78 : decode cX10_runs 78 = .ok (.ifCond .ne 221, 3) := by decide +kernel
theorem dX10_runs_81 : decode cX10_runs 81 = .ok (.aload_n 0, 1) := by decide +kernel
theorem dX10_runs_82 : decode cX10_runs 82 = .ok (.iload_n 1, 1) := by decide +kernel
theorem dX10_runs_83 : decode cX10_runs 83 = .ok (.iload_n 2, 1) := by decide +kernel
theorem dX10_runs_84 : decode cX10_runs 84 = .ok (.invokevirtual 272, 3) := by decide +kernel
theorem dX10_runs_87 : decode cX10_runs 87 = .ok (.aload_n 0, 1) := by decide +kernel
theorem dX10_runs_88 : decode cX10_runs 88 = .ok (.getfield 7, 3) := by decide +kernel
theorem dX10_runs_91 : decode cX10_runs 91 = .ok (.bipush 49, 2) := by decide +kernel
theorem dX10_runs_93 : decode cX10_runs 93 = .ok (.iload_n 1, 1) := by decide +kernel
theorem dX10_runs_94 : decode cX10_runs 94 = .ok (.iadd, 1) := by decide +kernel
theorem dX10_runs_95 : decode cX10_runs 95 = .ok (.iaload, 1) := by decide +kernel
theorem dX10_runs_96 : decode cX10_runs 96 = .ok (.istore_n 3, 1) := by decide +kernel
theorem dX10_runs_97 : decode cX10_runs 97 = .ok (.aload_n 0, 1) := by decide +kernel
theorem dX10_runs_98 : decode cX10_runs 98 = .ok (.getfield 54, 3) := by decide +kernel
theorem dX10_runs_101 : decode cX10_runs 101 = .ok (.aload_n 0, 1) := by decide +kernel
theorem dX10_runs_102 : decode cX10_runs 102 = .ok (.getfield 263, 3) := by decide +kernel
theorem dX10_runs_105 : decode cX10_runs 105 = .ok (.iload_n 1, 1) := by decide +kernel
theorem dX10_runs_106 : decode cX10_runs 106 = .ok (.iastore, 1) := by decide +kernel
theorem dX10_runs_107 : decode cX10_runs 107 = .ok (.aload_n 0, 1) := by decide +kernel
theorem dX10_runs_108 : decode cX10_runs 108 = .ok (.getfield 57, 3) := by decide +kernel
theorem dX10_runs_111 : decode cX10_runs 111 = .ok (.aload_n 0, 1) := by decide +kernel
theorem dX10_runs_112 : decode cX10_runs 112 = .ok (.getfield 263, 3) := by decide +kernel
theorem dX10_runs_115 : decode cX10_runs 115 = .ok (.iload_n 3, 1) := by decide +kernel
theorem dX10_runs_116 : decode cX10_runs 116 = .ok (.iconst 5, 1) := by decide +kernel
theorem dX10_runs_117 : decode cX10_runs 117 = .ok (.if_icmp .lt 9, 3) := by decide +kernel
theorem dX10_runs_120 : decode cX10_runs 120 = .ok (.iload_n 3, 1) := by decide +kernel
theorem dX10_runs_121 : decode cX10_runs 121 = .ok (.bipush 6, 2) := by decide +kernel
theorem dX10_runs_123 : decode cX10_runs 123 = .ok (.if_icmp .ne 12, 3) := by decide +kernel
theorem dX10_runs_126 : decode cX10_runs 126 = .ok (.aload_n 0, 1) := by decide +kernel
theorem dX10_runs_127 : decode cX10_runs 127 = .ok (.getfield 69, 3) := by decide +kernel
theorem dX10_runs_130 : decode cX10_runs 130 = .ok (.iload_n 1, 1) := by decide +kernel
theorem dX10_runs_131 : decode cX10_runs 131 = .ok (.iaload, 1) := by decide +kernel
theorem dX10_runs_132 : decode cX10_runs 132 = .ok (.goto 4, 3) := by decide +kernel
theorem dX10_runs_135 : decode cX10_runs 135 = .ok (.iconst (-1), 1) := by decide +kernel
theorem dX10_runs_136 : decode cX10_runs 136 = .ok (.iastore, 1) := by decide +kernel
theorem dX10_runs_137 : decode cX10_runs 137 = .ok (.aload_n 0, 1) := by decide +kernel
theorem dX10_runs_138 : decode cX10_runs 138 = .ok (.getfield 60, 3) := by decide +kernel
theorem dX10_runs_141 : decode cX10_runs 141 = .ok (.aload_n 0, 1) := by decide +kernel
theorem dX10_runs_142 : decode cX10_runs 142 = .ok (.getfield 263, 3) := by decide +kernel
theorem dX10_runs_145 : decode cX10_runs 145 = .ok (.aload_n 0, 1) := by decide +kernel
theorem dX10_runs_146 : decode cX10_runs 146 = .ok (.getfield 261, 3) := by decide +kernel
theorem dX10_runs_149 : decode cX10_runs 149 = .ok (.iconst 1, 1) := by decide +kernel
theorem dX10_runs_150 : decode cX10_runs 150 = .ok (.isub, 1) := by decide +kernel
theorem dX10_runs_151 : decode cX10_runs 151 = .ok (.iastore, 1) := by decide +kernel
theorem dX10_runs_152 : decode cX10_runs 152 = .ok (.iconst 1, 1) := by decide +kernel
theorem dX10_runs_153 : decode cX10_runs 153 = .ok (.istore_n 2, 1) := by decide +kernel
theorem dX10_runs_154 : decode cX10_runs 154 = .ok (.aload_n 0, 1) := by decide +kernel
theorem dX10_runs_155 : decode cX10_runs 155 = .ok (.iconst 0, 1) := by decide +kernel
theorem dX10_runs_156 : decode cX10_runs 156 = .ok (.putfield 276, 3) := by decide +kernel
theorem dX10_runs_159 : decode cX10_runs 159 = .ok (.aload_n 0, 1) := by decide +kernel
theorem dX10_runs_160 : decode cX10_runs 160 = .ok (.getfield 57, 3) := by decide +kernel
theorem dX10_runs_163 : decode cX10_runs 163 = .ok (.aload_n 0, 1) := by decide +kernel
theorem dX10_runs_164 : decode cX10_runs 164 = .ok (.getfield 263, 3) := by decide +kernel
theorem dX10_runs_167 : decode cX10_runs 167 = .ok (.iaload, 1) := by decide +kernel
theorem dX10_runs_168 : decode cX10_runs 168 = .ok (.iconst (-1), 1) := by decide +kernel
theorem dX10_runs_169 : decode cX10_runs 169 = .ok (.if_icmp .eq 39, 3) := by decide +kernel
theorem dX10_runs_172 : decode cX10_runs 172 = .ok (.aload_n 0, 1) := by decide +kernel
theorem dX10_runs_173 : decode cX10_runs 173 = .ok (.aload_n 0, 1) := by decide +kernel
theorem dX10_runs_174 : decode cX10_runs 174 = .ok (.getfield 69, 3) := by decide +kernel
theorem dX10_runs_177 : decode cX10_runs 177 = .ok (.iload_n 1, 1) := by decide +kernel
theorem dX10_runs_178 : decode cX10_runs 178 = .ok (.iaload, 1) := by decide +kernel
theorem dX10_runs_179 : decode cX10_runs 179 = .ok (.iload_n 2, 1) := by decide +kernel
theorem dX10_runs_180 : decode cX10_runs 180 = .ok (.invokevirtual 272, 3) := by decide +kernel
theorem dX10_runs_183 : decode cX10_runs 183 = .ok (.iload_n 3, 1) := by decide +kernel
theorem dX10_runs_184 : decode cX10_runs 184 = .ok (.iconst 3, 1) := by decide +kernel
theorem dX10_runs_185 : decode cX10_runs 185 = .ok (.if_icmp .ne 7, 3) := by decide +kernel
theorem dX10_runs_188 : decode cX10_runs 188 = .ok (.iconst 3, 1) := by decide +kernel
theorem dX10_runs_189 : decode cX10_runs 189 = .ok (.goto 4, 3) := by decide +kernel
theorem dX10_runs_192 : decode cX10_runs 192 = .ok (.iconst 2, 1) := by decide +kernel
theorem dX10_runs_193 : decode cX10_runs 193 = .ok (.istore_n 2, 1) := by decide +kernel
theorem dX10_runs_194 : decode cX10_runs 194 = .ok (.aload_n 0, 1) := by decide +kernel
theorem dX10_runs_195 : decode cX10_runs 195 = .ok (.iload_n 3, 1) := by decide +kernel
theorem dX10_runs_196 : decode cX10_runs 196 = .ok (.iconst 3, 1) := by decide +kernel
theorem dX10_runs_197 : decode cX10_runs 197 = .ok (.if_icmp .ne 7, 3) := by decide +kernel
theorem dX10_runs_200 : decode cX10_runs 200 = .ok (.iconst 1, 1) := by decide +kernel
theorem dX10_runs_201 : decode cX10_runs 201 = .ok (.goto 4, 3) := by decide +kernel
theorem dX10_runs_204 : decode cX10_runs 204 = .ok (.iconst 0, 1) := by decide +kernel
theorem dX10_runs_205 : decode cX10_runs 205 = .ok (.putfield 276, 3) := by decide +kernel
theorem dX10_runs_208 : decode cX10_runs 208 = .ok (.aload_n 0, 1) := by decide +kernel
theorem dX10_runs_209 : decode cX10_runs 209 = .ok (.iload_n 1, 1) := by decide +kernel
theorem dX10_runs_210 : decode cX10_runs 210 = .ok (.iload_n 3, 1) := by decide +kernel
theorem dX10_runs_211 : decode cX10_runs 211 = .ok (.invokevirtual 279, 3) := by decide +kernel
theorem dX10_runs_214 : decode cX10_runs 214 = .ok (.aload_n 0, 1) := by decide +kernel
theorem dX10_runs_215 : decode cX10_runs 215 = .ok (.getfield 63, 3) := by decide +kernel
theorem dX10_runs_218 : decode cX10_runs 218 = .ok (.aload_n 0, 1) := by decide +kernel
theorem dX10_runs_219 : decode cX10_runs 219 = .ok (.getfield 263, 3) := by decide +kernel
theorem dX10_runs_222 : decode cX10_runs 222 = .ok (.aload_n 0, 1) := by decide +kernel
theorem dX10_runs_223 : decode cX10_runs 223 = .ok (.getfield 266, 3) := by decide +kernel
theorem dX10_runs_226 : decode cX10_runs 226 = .ok (.iastore, 1) := by decide +kernel
theorem dX10_runs_227 : decode cX10_runs 227 = .ok (.aload_n 0, 1) := by decide +kernel
theorem dX10_runs_228 : decode cX10_runs 228 = .ok (.dup, 1) := by decide +kernel
theorem dX10_runs_229 : decode cX10_runs 229 = .ok (.getfield 263, 3) := by decide +kernel
theorem dX10_runs_232 : decode cX10_runs 232 = .ok (.iconst 1, 1) := by decide +kernel
theorem dX10_runs_233 : decode cX10_runs 233 = .ok (.iadd, 1) := by decide +kernel
theorem dX10_runs_234 : decode cX10_runs 234 = .ok (.putfield 263, 3) := by decide +kernel
theorem dX10_runs_237 : decode cX10_runs 237 = .ok (.aload_n 0, 1) := by decide +kernel
theorem dX10_runs_238 : decode cX10_runs 238 = .ok (.iload_n 3, 1) := by decide +kernel
theorem dX10_runs_239 : decode cX10_runs 239 = .ok (.bipush 7, 2) := by decide +kernel
theorem dX10_runs_241 : decode cX10_runs 241 = .ok (.if_icmp .ne 7, 3) := by decide +kernel
theorem dX10_runs_244 : decode cX10_runs 244 = .ok (.iconst 1, 1) := by decide +kernel
theorem dX10_runs_245 : decode cX10_runs 245 = .ok (.goto 17, 3) := by decide +kernel
theorem dX10_runs_248 : decode cX10_runs 248 = .ok (.aload_n 0, 1) := by decide +kernel
theorem dX10_runs_249 : decode cX10_runs 249 = .ok (.getfield 263, 3) := by decide +kernel
theorem dX10_runs_252 : decode cX10_runs 252 = .ok (.bipush 100, 2) := by decide +kernel
theorem dX10_runs_254 : decode cX10_runs 254 = .ok (.if_icmp .ne 7, 3) := by decide +kernel
theorem dX10_runs_257 : decode cX10_runs 257 = .ok (.iconst 2, 1) := by decide +kernel
theorem dX10_runs_258 : decode cX10_runs 258 = .ok (.goto 4, 3) := by decide +kernel
theorem dX10_runs_261 : decode cX10_runs 261 = .ok (.iconst 0, 1) := by decide +kernel
theorem dX10_runs_262 : decode cX10_runs 262 = .ok (.putfield 269, 3) := by decide +kernel
theorem dX10_runs_265 : decode cX10_runs 265 = .ok (.iload_n 3, 1) := by decide +kernel
theorem dX10_runs_266 : decode cX10_runs 266 = .ok (.iconst 5, 1) := by decide +kernel
theorem dX10_runs_267 : decode cX10_runs 267 = .ok (.if_icmp .ne 19, 3) := by decide +kernel
theorem dX10_runs_270 : decode cX10_runs 270 = .ok (.aload_n 0, 1) := by decide +kernel
theorem dX10_runs_271 : decode cX10_runs 271 = .ok (.getfield 266, 3) := by decide +kernel
theorem dX10_runs_274 : decode cX10_runs 274 = .ok (.ifCond .ge 12, 3) := by decide +kernel
theorem dX10_runs_277 : decode cX10_runs 277 = .ok (.aload_n 0, 1) := by decide +kernel
theorem dX10_runs_278 : decode cX10_runs 278 = .ok (.getfield 69, 3) := by decide +kernel
theorem dX10_runs_281 : decode cX10_runs 281 = .ok (.iload_n 1, 1) := by decide +kernel
theorem dX10_runs_282 : decode cX10_runs 282 = .ok (.iaload, 1) := by decide +kernel
theorem dX10_runs_283 : decode cX10_runs 283 = .ok (.goto 12, 3) := by decide +kernel
theorem dX10_runs_286 : decode cX10_runs 286 = .ok (.aload_n 0, 1) := by decide +kernel
theorem dX10_runs_287 : decode cX10_runs 287 = .ok (.getfield 7, 3) := by decide +kernel
theorem dX10_runs_290 : decode cX10_runs 290 = .ok (.bipush 109, 2) := by decide +kernel
theorem dX10_runs_292 : decode cX10_runs 292 = .ok (.iload_n 1, 1) := by decide +kernel
theorem dX10_runs_293 : decode cX10_runs 293 = .ok (.iadd, 1) := by decide +kernel
theorem dX10_runs_294 : decode cX10_runs 294 = .ok (.iaload, 1) := by decide +kernel
theorem dX10_runs_295 : decode cX10_runs 295 = .ok (.istore_n 1, 1) := by decide +kernel
theorem dX10_runs_296 : decode cX10_runs 296 = .ok (.goto (-222), 3) := by decide +kernel
theorem dX10_runs_299 : decode cX10_runs 299 = .ok (.return_, 1) := by decide +kernel
theorem dX10_goes_0 : decode cX10_goes 0 = .ok (.aload_n 0, 1) := by decide +kernel
theorem dX10_goes_1 : decode cX10_goes 1 = .ok (.getfield 69, 3) := by decide +kernel
theorem dX10_goes_4 : decode cX10_goes 4 = .ok (.iload_n 1, 1) := by decide +kernel
theorem dX10_goes_5 : decode cX10_goes 5 = .ok (.iaload, 1) := by decide +kernel
theorem dX10_goes_6 : decode cX10_goes 6 = .ok (.istore_n 3, 1) := by decide +kernel
theorem dX10_goes_7 : decode cX10_goes 7 = .ok (.iload_n 2, 1) := by decide +kernel
theorem dX10_goes_8 : decode cX10_goes 8 = .ok (.tableswitch 161 0 6 #[44, 57, 78, 99, 120, 161, 133], 44) := by decide +kernel
theorem dX10_goes_52 : decode cX10_goes 52 = .ok (.aload_n 0, 1) := by decide +kernel
theorem dX10_goes_53 : decode cX10_goes 53 = .ok (.aload_n 0, 1) := by decide +kernel
theorem dX10_goes_54 : decode cX10_goes 54 = .ok (.getfield 66, 3) := by decide +kernel
theorem dX10_goes_57 : decode cX10_goes 57 = .ok (.iload_n 3, 1) := by decide +kernel
theorem dX10_goes_58 : decode cX10_goes 58 = .ok (.iaload, 1) := by decide +kernel
theorem dX10_goes_59 : decode cX10_goes 59 = .ok (.putfield 266, 3) := by decide +kernel
theorem dX10_goes_62 : decode cX10_goes 62 = .ok (.goto 107, 3) := by decide +kernel
theorem dX10_goes_65 : decode cX10_goes 65 = .ok (.aload_n 0, 1) := by decide +kernel
theorem dX10_goes_66 : decode cX10_goes 66 = .ok (.aload_n 0, 1) := by decide +kernel
theorem dX10_goes_67 : decode cX10_goes 67 = .ok (.getfield 266, 3) := by decide +kernel
theorem dX10_goes_70 : decode cX10_goes 70 = .ok (.aload_n 0, 1) := by decide +kernel
theorem dX10_goes_71 : decode cX10_goes 71 = .ok (.getfield 66, 3) := by decide +kernel
theorem dX10_goes_74 : decode cX10_goes 74 = .ok (.iload_n 3, 1) := by decide +kernel
theorem dX10_goes_75 : decode cX10_goes 75 = .ok (.iaload, 1) := by decide +kernel
theorem dX10_goes_76 : decode cX10_goes 76 = .ok (.iadd, 1) := by decide +kernel
theorem dX10_goes_77 : decode cX10_goes 77 = .ok (.invokestatic 282, 3) := by decide +kernel
theorem dX10_goes_80 : decode cX10_goes 80 = .ok (.putfield 266, 3) := by decide +kernel
theorem dX10_goes_83 : decode cX10_goes 83 = .ok (.goto 86, 3) := by decide +kernel
theorem dX10_goes_86 : decode cX10_goes 86 = .ok (.aload_n 0, 1) := by decide +kernel
theorem dX10_goes_87 : decode cX10_goes 87 = .ok (.aload_n 0, 1) := by decide +kernel
theorem dX10_goes_88 : decode cX10_goes 88 = .ok (.getfield 266, 3) := by decide +kernel
theorem dX10_goes_91 : decode cX10_goes 91 = .ok (.aload_n 0, 1) := by decide +kernel
theorem dX10_goes_92 : decode cX10_goes 92 = .ok (.getfield 66, 3) := by decide +kernel
theorem dX10_goes_95 : decode cX10_goes 95 = .ok (.iload_n 3, 1) := by decide +kernel
theorem dX10_goes_96 : decode cX10_goes 96 = .ok (.iaload, 1) := by decide +kernel
theorem dX10_goes_97 : decode cX10_goes 97 = .ok (.isub, 1) := by decide +kernel
theorem dX10_goes_98 : decode cX10_goes 98 = .ok (.invokestatic 282, 3) := by decide +kernel
theorem dX10_goes_101 : decode cX10_goes 101 = .ok (.putfield 266, 3) := by decide +kernel
theorem dX10_goes_104 : decode cX10_goes 104 = .ok (.goto 65, 3) := by decide +kernel
theorem dX10_goes_107 : decode cX10_goes 107 = .ok (.aload_n 0, 1) := by decide +kernel
theorem dX10_goes_108 : decode cX10_goes 108 = .ok (.aload_n 0, 1) := by decide +kernel
theorem dX10_goes_109 : decode cX10_goes 109 = .ok (.getfield 266, 3) := by decide +kernel
theorem dX10_goes_112 : decode cX10_goes 112 = .ok (.aload_n 0, 1) := by decide +kernel
theorem dX10_goes_113 : decode cX10_goes 113 = .ok (.getfield 66, 3) := by decide +kernel
theorem dX10_goes_116 : decode cX10_goes 116 = .ok (.iload_n 3, 1) := by decide +kernel
theorem dX10_goes_117 : decode cX10_goes 117 = .ok (.iaload, 1) := by decide +kernel
theorem dX10_goes_118 : decode cX10_goes 118 = .ok (.imul, 1) := by decide +kernel
theorem dX10_goes_119 : decode cX10_goes 119 = .ok (.invokestatic 282, 3) := by decide +kernel
theorem dX10_goes_122 : decode cX10_goes 122 = .ok (.putfield 266, 3) := by decide +kernel
theorem dX10_goes_125 : decode cX10_goes 125 = .ok (.goto 44, 3) := by decide +kernel
theorem dX10_goes_128 : decode cX10_goes 128 = .ok (.aload_n 0, 1) := by decide +kernel
theorem dX10_goes_129 : decode cX10_goes 129 = .ok (.getfield 66, 3) := by decide +kernel
theorem dX10_goes_132 : decode cX10_goes 132 = .ok (.iload_n 3, 1) := by decide +kernel
theorem dX10_goes_133 : decode cX10_goes 133 = .ok (.aload_n 0, 1) := by decide +kernel
theorem dX10_goes_134 : decode cX10_goes 134 = .ok (.getfield 266, 3) := by decide +kernel
theorem dX10_goes_137 : decode cX10_goes 137 = .ok (.iastore, 1) := by decide +kernel
theorem dX10_goes_138 : decode cX10_goes 138 = .ok (.goto 31, 3) := by decide +kernel
theorem dX10_goes_141 : decode cX10_goes 141 = .ok (.aload_n 0, 1) := by decide +kernel
theorem dX10_goes_142 : decode cX10_goes 142 = .ok (.getfield 69, 3) := by decide +kernel
theorem dX10_goes_145 : decode cX10_goes 145 = .ok (.iload_n 3, 1) := by decide +kernel
theorem dX10_goes_146 : decode cX10_goes 146 = .ok (.aload_n 0, 1) := by decide +kernel
theorem dX10_goes_147 : decode cX10_goes 147 = .ok (.aload_n 0, 1) := by decide +kernel
theorem dX10_goes_148 : decode cX10_goes 148 = .ok (.getfield 69, 3) := by decide +kernel
theorem dX10_goes_151 : decode cX10_goes 151 = .ok (.iload_n 3, 1) := by decide +kernel
theorem dX10_goes_152 : decode cX10_goes 152 = .ok (.iaload, 1) := by decide +kernel
theorem dX10_goes_153 : decode cX10_goes 153 = .ok (.aload_n 0, 1) := by decide +kernel
theorem dX10_goes_154 : decode cX10_goes 154 = .ok (.getfield 7, 3) := by decide +kernel
theorem dX10_goes_157 : decode cX10_goes 157 = .ok (.bipush 89, 2) := by decide +kernel
theorem dX10_goes_159 : decode cX10_goes 159 = .ok (.iload_n 1, 1) := by decide +kernel
theorem dX10_goes_160 : decode cX10_goes 160 = .ok (.iadd, 1) := by decide +kernel
theorem dX10_goes_161 : decode cX10_goes 161 = .ok (.iaload, 1) := by decide +kernel
theorem dX10_goes_162 : decode cX10_goes 162 = .ok (.invokevirtual 285, 3) := by decide +kernel
theorem dX10_goes_165 : decode cX10_goes 165 = .ok (.iastore, 1) := by decide +kernel
theorem dX10_goes_166 : decode cX10_goes 166 = .ok (.goto 3, 3) := by decide +kernel
theorem dX10_goes_169 : decode cX10_goes 169 = .ok (.return_, 1) := by decide +kernel
theorem dX10_wordBehind_0 : decode cX10_wordBehind 0 = .ok (.iload_n 1, 1) := by decide +kernel
theorem dX10_wordBehind_1 : decode cX10_wordBehind 1 = .ok (.istore_n 3, 1) := by decide +kernel
theorem dX10_wordBehind_2 : decode cX10_wordBehind 2 = .ok (.iload_n 2, 1) := by decide +kernel
theorem dX10_wordBehind_3 : decode cX10_wordBehind 3 = .ok (.istore 4, 2) := by decide +kernel
theorem dX10_wordBehind_5 : decode cX10_wordBehind 5 = .ok (.iload 4, 2) := by decide +kernel
theorem dX10_wordBehind_7 : decode cX10_wordBehind 7 = .ok (.ifCond .le 47, 3) := by decide +kernel
theorem dX10_wordBehind_10 : decode cX10_wordBehind 10 = .ok (.iload_n 3, 1) := by decide +kernel
theorem dX10_wordBehind_11 : decode cX10_wordBehind 11 = .ok (.iconst 1, 1) := by decide +kernel
theorem dX10_wordBehind_12 : decode cX10_wordBehind 12 = .ok (.iadd, 1) := by decide +kernel
theorem dX10_wordBehind_13 : decode cX10_wordBehind 13 = .ok (.aload_n 0, 1) := by decide +kernel
theorem dX10_wordBehind_14 : decode cX10_wordBehind 14 = .ok (.getfield 7, 3) := by decide +kernel
theorem dX10_wordBehind_17 : decode cX10_wordBehind 17 = .ok (.iconst 5, 1) := by decide +kernel
theorem dX10_wordBehind_18 : decode cX10_wordBehind 18 = .ok (.iaload, 1) := by decide +kernel
theorem dX10_wordBehind_19 : decode cX10_wordBehind 19 = .ok (.irem, 1) := by decide +kernel
theorem dX10_wordBehind_20 : decode cX10_wordBehind 20 = .ok (.istore_n 3, 1) := by decide +kernel
theorem dX10_wordBehind_21 : decode cX10_wordBehind 21 = .ok (.aload_n 0, 1) := by decide +kernel
theorem dX10_wordBehind_22 : decode cX10_wordBehind 22 = .ok (.getfield 7, 3) := by decide +kernel
theorem dX10_wordBehind_25 : decode cX10_wordBehind 25 = .ok (.bipush 9, 2) := by decide +kernel
theorem dX10_wordBehind_27 : decode cX10_wordBehind 27 = .ok (.iload_n 3, 1) := by decide +kernel
theorem dX10_wordBehind_28 : decode cX10_wordBehind 28 = .ok (.iadd, 1) := by decide +kernel
theorem dX10_wordBehind_29 : decode cX10_wordBehind 29 = .ok (.iaload, 1) := by decide +kernel
theorem dX10_wordBehind_30 : decode cX10_wordBehind 30 = .ok (.iconst 1, 1) := by decide +kernel
theorem dX10_wordBehind_31 : decode cX10_wordBehind 31 = .ok (.if_icmp .ne 17, 3) := by decide +kernel
theorem dX10_wordBehind_34 : decode cX10_wordBehind 34 = .ok (.iload_n 3, 1) := by decide +kernel
theorem dX10_wordBehind_35 : decode cX10_wordBehind 35 = .ok (.iconst 1, 1) := by decide +kernel
theorem dX10_wordBehind_36 : decode cX10_wordBehind 36 = .ok (.iadd, 1) := by decide +kernel
theorem dX10_wordBehind_37 : decode cX10_wordBehind 37 = .ok (.aload_n 0, 1) := by decide +kernel
theorem dX10_wordBehind_38 : decode cX10_wordBehind 38 = .ok (.getfield 7, 3) := by decide +kernel
theorem dX10_wordBehind_41 : decode cX10_wordBehind 41 = .ok (.iconst 5, 1) := by decide +kernel
theorem dX10_wordBehind_42 : decode cX10_wordBehind 42 = .ok (.iaload, 1) := by decide +kernel
theorem dX10_wordBehind_43 : decode cX10_wordBehind 43 = .ok (.irem, 1) := by decide +kernel
theorem dX10_wordBehind_44 : decode cX10_wordBehind 44 = .ok (.istore_n 3, 1) := by decide +kernel
theorem dX10_wordBehind_45 : decode cX10_wordBehind 45 = .ok (.goto (-24), 3) := by decide +kernel
theorem dX10_wordBehind_48 : decode cX10_wordBehind 48 = .ok (.iinc 4 (-1), 3) := by decide +kernel
theorem dX10_wordBehind_51 : decode cX10_wordBehind 51 = .ok (.goto (-46), 3) := by decide +kernel
theorem dX10_wordBehind_54 : decode cX10_wordBehind 54 = .ok (.iload_n 3, 1) := by decide +kernel
theorem dX10_wordBehind_55 : decode cX10_wordBehind 55 = .ok (.ireturn, 1) := by decide +kernel
theorem dX10_takes_0 : decode cX10_takes 0 = .ok (.iconst 0, 1) := by decide +kernel
theorem dX10_takes_1 : decode cX10_takes 1 = .ok (.istore_n 1, 1) := by decide +kernel
theorem dX10_takes_2 : decode cX10_takes 2 = .ok (.iload_n 1, 1) := by decide +kernel
theorem dX10_takes_3 : decode cX10_takes 3 = .ok (.bipush 20, 2) := by decide +kernel
theorem dX10_takes_5 : decode cX10_takes 5 = .ok (.if_icmp .ge 25, 3) := by decide +kernel
theorem dX10_takes_8 : decode cX10_takes 8 = .ok (.aload_n 0, 1) := by decide +kernel
theorem dX10_takes_9 : decode cX10_takes 9 = .ok (.getfield 72, 3) := by decide +kernel
theorem dX10_takes_12 : decode cX10_takes 12 = .ok (.iload_n 1, 1) := by decide +kernel
theorem dX10_takes_13 : decode cX10_takes 13 = .ok (.aload_n 0, 1) := by decide +kernel
theorem dX10_takes_14 : decode cX10_takes 14 = .ok (.getfield 7, 3) := by decide +kernel
theorem dX10_takes_17 : decode cX10_takes 17 = .ok (.sipush 149, 3) := by decide +kernel
theorem dX10_takes_20 : decode cX10_takes 20 = .ok (.iload_n 1, 1) := by decide +kernel
theorem dX10_takes_21 : decode cX10_takes 21 = .ok (.iadd, 1) := by decide +kernel
theorem dX10_takes_22 : decode cX10_takes 22 = .ok (.iaload, 1) := by decide +kernel
theorem dX10_takes_23 : decode cX10_takes 23 = .ok (.iastore, 1) := by decide +kernel
theorem dX10_takes_24 : decode cX10_takes 24 = .ok (.iinc 1 1, 3) := by decide +kernel
theorem dX10_takes_27 : decode cX10_takes 27 = .ok (.goto (-25), 3) := by decide +kernel
theorem dX10_takes_30 : decode cX10_takes 30 = .ok (.aload_n 0, 1) := by decide +kernel
theorem dX10_takes_31 : decode cX10_takes 31 = .ok (.aload_n 0, 1) := by decide +kernel
theorem dX10_takes_32 : decode cX10_takes 32 = .ok (.getfield 7, 3) := by decide +kernel
theorem dX10_takes_35 : decode cX10_takes 35 = .ok (.iconst 2, 1) := by decide +kernel
theorem dX10_takes_36 : decode cX10_takes 36 = .ok (.iaload, 1) := by decide +kernel
theorem dX10_takes_37 : decode cX10_takes 37 = .ok (.putfield 288, 3) := by decide +kernel
theorem dX10_takes_40 : decode cX10_takes 40 = .ok (.aload_n 0, 1) := by decide +kernel
theorem dX10_takes_41 : decode cX10_takes 41 = .ok (.aload_n 0, 1) := by decide +kernel
theorem dX10_takes_42 : decode cX10_takes 42 = .ok (.getfield 7, 3) := by decide +kernel
theorem dX10_takes_45 : decode cX10_takes 45 = .ok (.iconst 3, 1) := by decide +kernel
theorem dX10_takes_46 : decode cX10_takes 46 = .ok (.iaload, 1) := by decide +kernel
theorem dX10_takes_47 : decode cX10_takes 47 = .ok (.putfield 290, 3) := by decide +kernel
theorem dX10_takes_50 : decode cX10_takes 50 = .ok (.return_, 1) := by decide +kernel
theorem dX10_whenAt_0 : decode cX10_whenAt 0 = .ok (.iload_n 1, 1) := by decide +kernel
theorem dX10_whenAt_1 : decode cX10_whenAt 1 = .ok (.aload_n 0, 1) := by decide +kernel
theorem dX10_whenAt_2 : decode cX10_whenAt 2 = .ok (.getfield 7, 3) := by decide +kernel
theorem dX10_whenAt_5 : decode cX10_whenAt 5 = .ok (.iconst 1, 1) := by decide +kernel
theorem dX10_whenAt_6 : decode cX10_whenAt 6 = .ok (.iaload, 1) := by decide +kernel
theorem dX10_whenAt_7 : decode cX10_whenAt 7 = .ok (.idiv, 1) := by decide +kernel
theorem dX10_whenAt_8 : decode cX10_whenAt 8 = .ok (.aload_n 0, 1) := by decide +kernel
theorem dX10_whenAt_9 : decode cX10_whenAt 9 = .ok (.getfield 7, 3) := by decide +kernel
theorem dX10_whenAt_12 : decode cX10_whenAt 12 = .ok (.iconst 0, 1) := by decide +kernel
theorem dX10_whenAt_13 : decode cX10_whenAt 13 = .ok (.iaload, 1) := by decide +kernel
theorem dX10_whenAt_14 : decode cX10_whenAt 14 = .ok (.iconst 1, 1) := by decide +kernel
theorem dX10_whenAt_15 : decode cX10_whenAt 15 = .ok (.isub, 1) := by decide +kernel
theorem dX10_whenAt_16 : decode cX10_whenAt 16 = .ok (.if_icmp .ne 17, 3) := by decide +kernel
theorem dX10_whenAt_19 : decode cX10_whenAt 19 = .ok (.aload_n 0, 1) := by decide +kernel
theorem dX10_whenAt_20 : decode cX10_whenAt 20 = .ok (.getfield 290, 3) := by decide +kernel
theorem dX10_whenAt_23 : decode cX10_whenAt 23 = .ok (.ifCond .le 10, 3) := by decide +kernel
theorem dX10_whenAt_26 : decode cX10_whenAt 26 = .ok (.aload_n 0, 1) := by decide +kernel
theorem dX10_whenAt_27 : decode cX10_whenAt 27 = .ok (.getfield 290, 3) := by decide +kernel
theorem dX10_whenAt_30 : decode cX10_whenAt 30 = .ok (.goto 9, 3) := by decide +kernel
theorem dX10_whenAt_33 : decode cX10_whenAt 33 = .ok (.aload_n 0, 1) := by decide +kernel
theorem dX10_whenAt_34 : decode cX10_whenAt 34 = .ok (.getfield 7, 3) := by decide +kernel
theorem dX10_whenAt_37 : decode cX10_whenAt 37 = .ok (.iconst 1, 1) := by decide +kernel
theorem dX10_whenAt_38 : decode cX10_whenAt 38 = .ok (.iaload, 1) := by decide +kernel
theorem dX10_whenAt_39 : decode cX10_whenAt 39 = .ok (.istore_n 3, 1) := by decide +kernel
theorem dX10_whenAt_40 : decode cX10_whenAt 40 = .ok (.iload_n 1, 1) := by decide +kernel
theorem dX10_whenAt_41 : decode cX10_whenAt 41 = .ok (.aload_n 0, 1) := by decide +kernel
theorem dX10_whenAt_42 : decode cX10_whenAt 42 = .ok (.getfield 7, 3) := by decide +kernel
theorem dX10_whenAt_45 : decode cX10_whenAt 45 = .ok (.iconst 1, 1) := by decide +kernel
theorem dX10_whenAt_46 : decode cX10_whenAt 46 = .ok (.iaload, 1) := by decide +kernel
theorem dX10_whenAt_47 : decode cX10_whenAt 47 = .ok (.irem, 1) := by decide +kernel
theorem dX10_whenAt_48 : decode cX10_whenAt 48 = .ok (.iload_n 3, 1) := by decide +kernel
theorem dX10_whenAt_49 : decode cX10_whenAt 49 = .ok (.irem, 1) := by decide +kernel
theorem dX10_whenAt_50 : decode cX10_whenAt 50 = .ok (.istore 4, 2) := by decide +kernel
theorem dX10_whenAt_52 : decode cX10_whenAt 52 = .ok (.iload_n 2, 1) := by decide +kernel
theorem dX10_whenAt_53 : decode cX10_whenAt 53 = .ok (.iload 4, 2) := by decide +kernel
theorem dX10_whenAt_55 : decode cX10_whenAt 55 = .ok (.iload_n 2, 1) := by decide +kernel
theorem dX10_whenAt_56 : decode cX10_whenAt 56 = .ok (.isub, 1) := by decide +kernel
theorem dX10_whenAt_57 : decode cX10_whenAt 57 = .ok (.iload_n 3, 1) := by decide +kernel
theorem dX10_whenAt_58 : decode cX10_whenAt 58 = .ok (.invokestatic 258, 3) := by decide +kernel
theorem dX10_whenAt_61 : decode cX10_whenAt 61 = .ok (.iadd, 1) := by decide +kernel
theorem dX10_whenAt_62 : decode cX10_whenAt 62 = .ok (.ireturn, 1) := by decide +kernel
theorem dX10_waited_0 : decode cX10_waited 0 = .ok (.iload_n 1, 1) := by decide +kernel
theorem dX10_waited_1 : decode cX10_waited 1 = .ok (.ifCond .ne 7, 3) := by decide +kernel
theorem dX10_waited_4 : decode cX10_waited 4 = .ok (.iconst 0, 1) := by decide +kernel
theorem dX10_waited_5 : decode cX10_waited 5 = .ok (.goto 34, 3) := by decide +kernel
theorem dX10_waited_8 : decode cX10_waited 8 = .ok (.iload_n 1, 1) := by decide +kernel
theorem dX10_waited_9 : decode cX10_waited 9 = .ok (.iconst 1, 1) := by decide +kernel
theorem dX10_waited_10 : decode cX10_waited 10 = .ok (.if_icmp .ne 12, 3) := by decide +kernel
theorem dX10_waited_13 : decode cX10_waited 13 = .ok (.iconst 1, 1) := by decide +kernel
theorem dX10_waited_14 : decode cX10_waited 14 = .ok (.aload_n 0, 1) := by decide +kernel
theorem dX10_waited_15 : decode cX10_waited 15 = .ok (.getfield 288, 3) := by decide +kernel
theorem dX10_waited_18 : decode cX10_waited 18 = .ok (.iadd, 1) := by decide +kernel
theorem dX10_waited_19 : decode cX10_waited 19 = .ok (.goto 20, 3) := by decide +kernel
theorem dX10_waited_22 : decode cX10_waited 22 = .ok (.iload_n 1, 1) := by decide +kernel
theorem dX10_waited_23 : decode cX10_waited 23 = .ok (.iconst 2, 1) := by decide +kernel
theorem dX10_waited_24 : decode cX10_waited 24 = .ok (.if_icmp .ne 7, 3) := by decide +kernel
theorem dX10_waited_27 : decode cX10_waited 27 = .ok (.iconst 1, 1) := by decide +kernel
theorem dX10_waited_28 : decode cX10_waited 28 = .ok (.goto 11, 3) := by decide +kernel
theorem dX10_waited_31 : decode cX10_waited 31 = .ok (.iconst 1, 1) := by decide +kernel
theorem dX10_waited_32 : decode cX10_waited 32 = .ok (.aload_n 0, 1) := by decide +kernel
theorem dX10_waited_33 : decode cX10_waited 33 = .ok (.getfield 7, 3) := by decide +kernel
theorem dX10_waited_36 : decode cX10_waited 36 = .ok (.iconst 4, 1) := by decide +kernel
theorem dX10_waited_37 : decode cX10_waited 37 = .ok (.iaload, 1) := by decide +kernel
theorem dX10_waited_38 : decode cX10_waited 38 = .ok (.iadd, 1) := by decide +kernel
theorem dX10_waited_39 : decode cX10_waited 39 = .ok (.ireturn, 1) := by decide +kernel
theorem dX10_timed_0 : decode cX10_timed 0 = .ok (.iconst 0, 1) := by decide +kernel
theorem dX10_timed_1 : decode cX10_timed 1 = .ok (.istore_n 1, 1) := by decide +kernel
theorem dX10_timed_2 : decode cX10_timed 2 = .ok (.iconst 0, 1) := by decide +kernel
theorem dX10_timed_3 : decode cX10_timed 3 = .ok (.istore_n 2, 1) := by decide +kernel
theorem dX10_timed_4 : decode cX10_timed 4 = .ok (.iload_n 2, 1) := by decide +kernel
theorem dX10_timed_5 : decode cX10_timed 5 = .ok (.aload_n 0, 1) := by decide +kernel
theorem dX10_timed_6 : decode cX10_timed 6 = .ok (.getfield 261, 3) := by decide +kernel
theorem dX10_timed_9 : decode cX10_timed 9 = .ok (.if_icmp .ge 44, 3) := by decide +kernel
theorem dX10_timed_12 : decode cX10_timed 12 = .ok (.aload_n 0, 1) := by decide +kernel
theorem dX10_timed_13 : decode cX10_timed 13 = .ok (.aload_n 0, 1) := by decide +kernel
theorem dX10_timed_14 : decode cX10_timed 14 = .ok (.getfield 72, 3) := by decide +kernel
theorem dX10_timed_17 : decode cX10_timed 17 = .ok (.aload_n 0, 1) := by decide +kernel
theorem dX10_timed_18 : decode cX10_timed 18 = .ok (.getfield 45, 3) := by decide +kernel
theorem dX10_timed_21 : decode cX10_timed 21 = .ok (.iload_n 2, 1) := by decide +kernel
theorem dX10_timed_22 : decode cX10_timed 22 = .ok (.iaload, 1) := by decide +kernel
theorem dX10_timed_23 : decode cX10_timed 23 = .ok (.iaload, 1) := by decide +kernel
theorem dX10_timed_24 : decode cX10_timed 24 = .ok (.iload_n 1, 1) := by decide +kernel
theorem dX10_timed_25 : decode cX10_timed 25 = .ok (.aload_n 0, 1) := by decide +kernel
theorem dX10_timed_26 : decode cX10_timed 26 = .ok (.aload_n 0, 1) := by decide +kernel
theorem dX10_timed_27 : decode cX10_timed 27 = .ok (.getfield 48, 3) := by decide +kernel
theorem dX10_timed_30 : decode cX10_timed 30 = .ok (.iload_n 2, 1) := by decide +kernel
theorem dX10_timed_31 : decode cX10_timed 31 = .ok (.iaload, 1) := by decide +kernel
theorem dX10_timed_32 : decode cX10_timed 32 = .ok (.invokevirtual 292, 3) := by decide +kernel
theorem dX10_timed_35 : decode cX10_timed 35 = .ok (.iadd, 1) := by decide +kernel
theorem dX10_timed_36 : decode cX10_timed 36 = .ok (.invokevirtual 295, 3) := by decide +kernel
theorem dX10_timed_39 : decode cX10_timed 39 = .ok (.istore_n 1, 1) := by decide +kernel
theorem dX10_timed_40 : decode cX10_timed 40 = .ok (.aload_n 0, 1) := by decide +kernel
theorem dX10_timed_41 : decode cX10_timed 41 = .ok (.getfield 51, 3) := by decide +kernel
theorem dX10_timed_44 : decode cX10_timed 44 = .ok (.iload_n 2, 1) := by decide +kernel
theorem dX10_timed_45 : decode cX10_timed 45 = .ok (.iload_n 1, 1) := by decide +kernel
theorem dX10_timed_46 : decode cX10_timed 46 = .ok (.iastore, 1) := by decide +kernel
theorem dX10_timed_47 : decode cX10_timed 47 = .ok (.iinc 2 1, 3) := by decide +kernel
theorem dX10_timed_50 : decode cX10_timed 50 = .ok (.goto (-46), 3) := by decide +kernel
theorem dX10_timed_53 : decode cX10_timed 53 = .ok (.iload_n 1, 1) := by decide +kernel
theorem dX10_timed_54 : decode cX10_timed 54 = .ok (.iconst 1, 1) := by decide +kernel
theorem dX10_timed_55 : decode cX10_timed 55 = .ok (.iadd, 1) := by decide +kernel
theorem dX10_timed_56 : decode cX10_timed 56 = .ok (.aload_n 0, 1) := by decide +kernel
theorem dX10_timed_57 : decode cX10_timed 57 = .ok (.getfield 276, 3) := by decide +kernel
theorem dX10_timed_60 : decode cX10_timed 60 = .ok (.ifCond .eq 12, 3) := by decide +kernel
theorem dX10_timed_63 : decode cX10_timed 63 = .ok (.aload_n 0, 1) := by decide +kernel
theorem dX10_timed_64 : decode cX10_timed 64 = .ok (.getfield 7, 3) := by decide +kernel
theorem dX10_timed_67 : decode cX10_timed 67 = .ok (.iconst 4, 1) := by decide +kernel
theorem dX10_timed_68 : decode cX10_timed 68 = .ok (.iaload, 1) := by decide +kernel
theorem dX10_timed_69 : decode cX10_timed 69 = .ok (.goto 4, 3) := by decide +kernel
theorem dX10_timed_72 : decode cX10_timed 72 = .ok (.iconst 0, 1) := by decide +kernel
theorem dX10_timed_73 : decode cX10_timed 73 = .ok (.iadd, 1) := by decide +kernel
theorem dX10_timed_74 : decode cX10_timed 74 = .ok (.ireturn, 1) := by decide +kernel
theorem dX10_timeNow_0 : decode cX10_timeNow 0 = .ok (.aload_n 0, 1) := by decide +kernel
theorem dX10_timeNow_1 : decode cX10_timeNow 1 = .ok (.invokevirtual 298, 3) := by decide +kernel
theorem dX10_timeNow_4 : decode cX10_timeNow 4 = .ok (.aload_n 0, 1) := by decide +kernel
theorem dX10_timeNow_5 : decode cX10_timeNow 5 = .ok (.invokevirtual 301, 3) := by decide +kernel
theorem dX10_timeNow_8 : decode cX10_timeNow 8 = .ok (.aload_n 0, 1) := by decide +kernel
theorem dX10_timeNow_9 : decode cX10_timeNow 9 = .ok (.invokevirtual 304, 3) := by decide +kernel
theorem dX10_timeNow_12 : decode cX10_timeNow 12 = .ok (.ireturn, 1) := by decide +kernel
theorem dX10_lostAt_0 : decode cX10_lostAt 0 = .ok (.aload_n 0, 1) := by decide +kernel
theorem dX10_lostAt_1 : decode cX10_lostAt 1 = .ok (.getfield 51, 3) := by decide +kernel
theorem dX10_lostAt_4 : decode cX10_lostAt 4 = .ok (.iload_n 1, 1) := by decide +kernel
theorem dX10_lostAt_5 : decode cX10_lostAt 5 = .ok (.iaload, 1) := by decide +kernel
theorem dX10_lostAt_6 : decode cX10_lostAt 6 = .ok (.iload_n 1, 1) := by decide +kernel
theorem dX10_lostAt_7 : decode cX10_lostAt 7 = .ok (.ifCond .ne 7, 3) := by decide +kernel
theorem dX10_lostAt_10 : decode cX10_lostAt 10 = .ok (.iconst 0, 1) := by decide +kernel
theorem dX10_lostAt_11 : decode cX10_lostAt 11 = .ok (.goto 22, 3) := by decide +kernel
theorem dX10_lostAt_14 : decode cX10_lostAt 14 = .ok (.aload_n 0, 1) := by decide +kernel
theorem dX10_lostAt_15 : decode cX10_lostAt 15 = .ok (.getfield 51, 3) := by decide +kernel
theorem dX10_lostAt_18 : decode cX10_lostAt 18 = .ok (.iload_n 1, 1) := by decide +kernel
theorem dX10_lostAt_19 : decode cX10_lostAt 19 = .ok (.iconst 1, 1) := by decide +kernel
theorem dX10_lostAt_20 : decode cX10_lostAt 20 = .ok (.isub, 1) := by decide +kernel
theorem dX10_lostAt_21 : decode cX10_lostAt 21 = .ok (.iaload, 1) := by decide +kernel
theorem dX10_lostAt_22 : decode cX10_lostAt 22 = .ok (.aload_n 0, 1) := by decide +kernel
theorem dX10_lostAt_23 : decode cX10_lostAt 23 = .ok (.aload_n 0, 1) := by decide +kernel
theorem dX10_lostAt_24 : decode cX10_lostAt 24 = .ok (.getfield 48, 3) := by decide +kernel
theorem dX10_lostAt_27 : decode cX10_lostAt 27 = .ok (.iload_n 1, 1) := by decide +kernel
theorem dX10_lostAt_28 : decode cX10_lostAt 28 = .ok (.iaload, 1) := by decide +kernel
theorem dX10_lostAt_29 : decode cX10_lostAt 29 = .ok (.invokevirtual 292, 3) := by decide +kernel
theorem dX10_lostAt_32 : decode cX10_lostAt 32 = .ok (.iadd, 1) := by decide +kernel
theorem dX10_lostAt_33 : decode cX10_lostAt 33 = .ok (.isub, 1) := by decide +kernel
theorem dX10_lostAt_34 : decode cX10_lostAt 34 = .ok (.ireturn, 1) := by decide +kernel
theorem dX10_steps_0 : decode cX10_steps 0 = .ok (.aload_n 0, 1) := by decide +kernel
theorem dX10_steps_1 : decode cX10_steps 1 = .ok (.invokevirtual 307, 3) := by decide +kernel
theorem dX10_steps_4 : decode cX10_steps 4 = .ok (.ifCond .ne 6, 3) := by decide +kernel
theorem dX10_steps_7 : decode cX10_steps 7 = .ok (.bipush (-2), 2) := by decide +kernel
theorem dX10_steps_9 : decode cX10_steps 9 = .ok (.ireturn, 1) := by decide +kernel
theorem dX10_steps_10 : decode cX10_steps 10 = .ok (.aload_n 0, 1) := by decide +kernel
theorem dX10_steps_11 : decode cX10_steps 11 = .ok (.invokevirtual 301, 3) := by decide +kernel
theorem dX10_steps_14 : decode cX10_steps 14 = .ok (.aload_n 0, 1) := by decide +kernel
theorem dX10_steps_15 : decode cX10_steps 15 = .ok (.getfield 263, 3) := by decide +kernel
theorem dX10_steps_18 : decode cX10_steps 18 = .ok (.ireturn, 1) := by decide +kernel
theorem dX10_why_0 : decode cX10_why 0 = .ok (.aload_n 0, 1) := by decide +kernel
theorem dX10_why_1 : decode cX10_why 1 = .ok (.invokevirtual 307, 3) := by decide +kernel
theorem dX10_why_4 : decode cX10_why 4 = .ok (.ifCond .ne 6, 3) := by decide +kernel
theorem dX10_why_7 : decode cX10_why 7 = .ok (.bipush (-2), 2) := by decide +kernel
theorem dX10_why_9 : decode cX10_why 9 = .ok (.ireturn, 1) := by decide +kernel
theorem dX10_why_10 : decode cX10_why 10 = .ok (.aload_n 0, 1) := by decide +kernel
theorem dX10_why_11 : decode cX10_why 11 = .ok (.invokevirtual 301, 3) := by decide +kernel
theorem dX10_why_14 : decode cX10_why 14 = .ok (.aload_n 0, 1) := by decide +kernel
theorem dX10_why_15 : decode cX10_why 15 = .ok (.getfield 269, 3) := by decide +kernel
theorem dX10_why_18 : decode cX10_why 18 = .ok (.ireturn, 1) := by decide +kernel
theorem dX10_acc_0 : decode cX10_acc 0 = .ok (.aload_n 0, 1) := by decide +kernel
theorem dX10_acc_1 : decode cX10_acc 1 = .ok (.invokevirtual 307, 3) := by decide +kernel
theorem dX10_acc_4 : decode cX10_acc 4 = .ok (.ifCond .ne 7, 3) := by decide +kernel
theorem dX10_acc_7 : decode cX10_acc 7 = .ok (.sipush (-20000), 3) := by decide +kernel
theorem dX10_acc_10 : decode cX10_acc 10 = .ok (.ireturn, 1) := by decide +kernel
theorem dX10_acc_11 : decode cX10_acc 11 = .ok (.aload_n 0, 1) := by decide +kernel
theorem dX10_acc_12 : decode cX10_acc 12 = .ok (.invokevirtual 301, 3) := by decide +kernel
theorem dX10_acc_15 : decode cX10_acc 15 = .ok (.aload_n 0, 1) := by decide +kernel
theorem dX10_acc_16 : decode cX10_acc 16 = .ok (.getfield 266, 3) := by decide +kernel
theorem dX10_acc_19 : decode cX10_acc 19 = .ok (.ireturn, 1) := by decide +kernel
theorem dX10_value_0 : decode cX10_value 0 = .ok (.aload_n 0, 1) := by decide +kernel
theorem dX10_value_1 : decode cX10_value 1 = .ok (.invokevirtual 307, 3) := by decide +kernel
theorem dX10_value_4 : decode cX10_value 4 = .ok (.ifCond .eq 24, 3) := by decide +kernel
theorem dX10_value_7 : decode cX10_value 7 = .ok (.aload_n 0, 1) := by decide +kernel
theorem dX10_value_8 : decode cX10_value 8 = .ok (.iload_n 1, 1) := by decide +kernel
theorem dX10_value_9 : decode cX10_value 9 = .ok (.invokevirtual 252, 3) := by decide +kernel
theorem dX10_value_12 : decode cX10_value 12 = .ok (.ifCond .eq 16, 3) := by decide +kernel
theorem dX10_value_15 : decode cX10_value 15 = .ok (.aload_n 0, 1) := by decide +kernel
theorem dX10_value_16 : decode cX10_value 16 = .ok (.getfield 7, 3) := by decide +kernel
theorem dX10_value_19 : decode cX10_value 19 = .ok (.bipush 9, 2) := by decide +kernel
theorem dX10_value_21 : decode cX10_value 21 = .ok (.iload_n 1, 1) := by decide +kernel
theorem dX10_value_22 : decode cX10_value 22 = .ok (.iadd, 1) := by decide +kernel
theorem dX10_value_23 : decode cX10_value 23 = .ok (.iaload, 1) := by decide +kernel
theorem dX10_value_24 : decode cX10_value 24 = .ok (.iconst 1, 1) := by decide +kernel
theorem dX10_value_25 : decode cX10_value 25 = .ok (.if_icmp .ne 7, 3) := by decide +kernel
theorem dX10_value_28 : decode cX10_value 28 = .ok (.sipush (-20000), 3) := by decide +kernel
theorem dX10_value_31 : decode cX10_value 31 = .ok (.ireturn, 1) := by decide +kernel
theorem dX10_value_32 : decode cX10_value 32 = .ok (.aload_n 0, 1) := by decide +kernel
theorem dX10_value_33 : decode cX10_value 33 = .ok (.invokevirtual 301, 3) := by decide +kernel
theorem dX10_value_36 : decode cX10_value 36 = .ok (.aload_n 0, 1) := by decide +kernel
theorem dX10_value_37 : decode cX10_value 37 = .ok (.getfield 66, 3) := by decide +kernel
theorem dX10_value_40 : decode cX10_value 40 = .ok (.iload_n 1, 1) := by decide +kernel
theorem dX10_value_41 : decode cX10_value 41 = .ok (.iaload, 1) := by decide +kernel
theorem dX10_value_42 : decode cX10_value 42 = .ok (.ireturn, 1) := by decide +kernel
theorem dX10_done_0 : decode cX10_done 0 = .ok (.aload_n 0, 1) := by decide +kernel
theorem dX10_done_1 : decode cX10_done 1 = .ok (.invokevirtual 307, 3) := by decide +kernel
theorem dX10_done_4 : decode cX10_done 4 = .ok (.ifCond .eq 19, 3) := by decide +kernel
theorem dX10_done_7 : decode cX10_done 7 = .ok (.iload_n 1, 1) := by decide +kernel
theorem dX10_done_8 : decode cX10_done 8 = .ok (.ifCond .lt 15, 3) := by decide +kernel
theorem dX10_done_11 : decode cX10_done 11 = .ok (.iload_n 2, 1) := by decide +kernel
theorem dX10_done_12 : decode cX10_done 12 = .ok (.i2l, 1) := by decide +kernel
theorem dX10_done_13 : decode cX10_done 13 = .ok (.lconst 0, 1) := by decide +kernel
theorem dX10_done_14 : decode cX10_done 14 = .ok (.ldc2_w 311, 3) := by decide +kernel
theorem dX10_done_17 : decode cX10_done 17 = .ok (.invokestatic 96, 3) := by decide +kernel
theorem dX10_done_20 : decode cX10_done 20 = .ok (.ifCond .ne 7, 3) := by decide +kernel
theorem dX10_done_23 : decode cX10_done 23 = .ok (.sipush (-20002), 3) := by decide +kernel
theorem dX10_done_26 : decode cX10_done 26 = .ok (.ireturn, 1) := by decide +kernel
theorem dX10_done_27 : decode cX10_done 27 = .ok (.aload_n 0, 1) := by decide +kernel
theorem dX10_done_28 : decode cX10_done 28 = .ok (.invokevirtual 313, 3) := by decide +kernel
theorem dX10_done_31 : decode cX10_done 31 = .ok (.istore_n 3, 1) := by decide +kernel
theorem dX10_done_32 : decode cX10_done 32 = .ok (.iload_n 1, 1) := by decide +kernel
theorem dX10_done_33 : decode cX10_done 33 = .ok (.aload_n 0, 1) := by decide +kernel
theorem dX10_done_34 : decode cX10_done 34 = .ok (.getfield 263, 3) := by decide +kernel
theorem dX10_done_37 : decode cX10_done 37 = .ok (.if_icmp .lt 7, 3) := by decide +kernel
theorem dX10_done_40 : decode cX10_done 40 = .ok (.sipush (-20001), 3) := by decide +kernel
theorem dX10_done_43 : decode cX10_done 43 = .ok (.ireturn, 1) := by decide +kernel
theorem dX10_done_44 : decode cX10_done 44 = .ok (.iload_n 2, 1) := by decide +kernel
theorem dX10_done_45 : decode cX10_done 45 = .ok (.tableswitch 85 0 3 #[31, 38, 45, 57], 31) := by decide +kernel
theorem dX10_done_76 : decode cX10_done 76 = .ok (.aload_n 0, 1) := by decide +kernel
theorem dX10_done_77 : decode cX10_done 77 = .ok (.getfield 54, 3) := by decide +kernel
theorem dX10_done_80 : decode cX10_done 80 = .ok (.iload_n 1, 1) := by decide +kernel
theorem dX10_done_81 : decode cX10_done 81 = .ok (.iaload, 1) := by decide +kernel
theorem dX10_done_82 : decode cX10_done 82 = .ok (.ireturn, 1) := by decide +kernel
theorem dX10_done_83 : decode cX10_done 83 = .ok (.aload_n 0, 1) := by decide +kernel
theorem dX10_done_84 : decode cX10_done 84 = .ok (.getfield 57, 3) := by decide +kernel
theorem dX10_done_87 : decode cX10_done 87 = .ok (.iload_n 1, 1) := by decide +kernel
theorem dX10_done_88 : decode cX10_done 88 = .ok (.iaload, 1) := by decide +kernel
theorem dX10_done_89 : decode cX10_done 89 = .ok (.ireturn, 1) := by decide +kernel
theorem dX10_done_90 : decode cX10_done 90 = .ok (.aload_n 0, 1) := by decide +kernel
theorem dX10_done_91 : decode cX10_done 91 = .ok (.getfield 51, 3) := by decide +kernel
theorem dX10_done_94 : decode cX10_done 94 = .ok (.aload_n 0, 1) := by decide +kernel
theorem dX10_done_95 : decode cX10_done 95 = .ok (.getfield 60, 3) := by decide +kernel
theorem dX10_done_98 : decode cX10_done 98 = .ok (.iload_n 1, 1) := by decide +kernel
theorem dX10_done_99 : decode cX10_done 99 = .ok (.iaload, 1) := by decide +kernel
theorem dX10_done_100 : decode cX10_done 100 = .ok (.iaload, 1) := by decide +kernel
theorem dX10_done_101 : decode cX10_done 101 = .ok (.ireturn, 1) := by decide +kernel
theorem dX10_done_102 : decode cX10_done 102 = .ok (.aload_n 0, 1) := by decide +kernel
theorem dX10_done_103 : decode cX10_done 103 = .ok (.getfield 57, 3) := by decide +kernel
theorem dX10_done_106 : decode cX10_done 106 = .ok (.iload_n 1, 1) := by decide +kernel
theorem dX10_done_107 : decode cX10_done 107 = .ok (.iaload, 1) := by decide +kernel
theorem dX10_done_108 : decode cX10_done 108 = .ok (.iconst (-1), 1) := by decide +kernel
theorem dX10_done_109 : decode cX10_done 109 = .ok (.if_icmp .ne 7, 3) := by decide +kernel
theorem dX10_done_112 : decode cX10_done 112 = .ok (.iconst (-1), 1) := by decide +kernel
theorem dX10_done_113 : decode cX10_done 113 = .ok (.goto 16, 3) := by decide +kernel
theorem dX10_done_116 : decode cX10_done 116 = .ok (.aload_n 0, 1) := by decide +kernel
theorem dX10_done_117 : decode cX10_done 117 = .ok (.getfield 51, 3) := by decide +kernel
theorem dX10_done_120 : decode cX10_done 120 = .ok (.aload_n 0, 1) := by decide +kernel
theorem dX10_done_121 : decode cX10_done 121 = .ok (.getfield 60, 3) := by decide +kernel
theorem dX10_done_124 : decode cX10_done 124 = .ok (.iload_n 1, 1) := by decide +kernel
theorem dX10_done_125 : decode cX10_done 125 = .ok (.iaload, 1) := by decide +kernel
theorem dX10_done_126 : decode cX10_done 126 = .ok (.iconst 1, 1) := by decide +kernel
theorem dX10_done_127 : decode cX10_done 127 = .ok (.iadd, 1) := by decide +kernel
theorem dX10_done_128 : decode cX10_done 128 = .ok (.iaload, 1) := by decide +kernel
theorem dX10_done_129 : decode cX10_done 129 = .ok (.ireturn, 1) := by decide +kernel
theorem dX10_done_130 : decode cX10_done 130 = .ok (.aload_n 0, 1) := by decide +kernel
theorem dX10_done_131 : decode cX10_done 131 = .ok (.getfield 63, 3) := by decide +kernel
theorem dX10_done_134 : decode cX10_done 134 = .ok (.iload_n 1, 1) := by decide +kernel
theorem dX10_done_135 : decode cX10_done 135 = .ok (.iaload, 1) := by decide +kernel
theorem dX10_done_136 : decode cX10_done 136 = .ok (.ireturn, 1) := by decide +kernel
theorem dX10_time_0 : decode cX10_time 0 = .ok (.aload_n 0, 1) := by decide +kernel
theorem dX10_time_1 : decode cX10_time 1 = .ok (.invokevirtual 307, 3) := by decide +kernel
theorem dX10_time_4 : decode cX10_time 4 = .ok (.ifCond .eq 10, 3) := by decide +kernel
theorem dX10_time_7 : decode cX10_time 7 = .ok (.aload_n 0, 1) := by decide +kernel
theorem dX10_time_8 : decode cX10_time 8 = .ok (.invokevirtual 313, 3) := by decide +kernel
theorem dX10_time_11 : decode cX10_time 11 = .ok (.goto 5, 3) := by decide +kernel
theorem dX10_time_14 : decode cX10_time 14 = .ok (.bipush (-2), 2) := by decide +kernel
theorem dX10_time_16 : decode cX10_time 16 = .ok (.ireturn, 1) := by decide +kernel
theorem dX10_rounds_0 : decode cX10_rounds 0 = .ok (.aload_n 0, 1) := by decide +kernel
theorem dX10_rounds_1 : decode cX10_rounds 1 = .ok (.invokevirtual 307, 3) := by decide +kernel
theorem dX10_rounds_4 : decode cX10_rounds 4 = .ok (.ifCond .eq 17, 3) := by decide +kernel
theorem dX10_rounds_7 : decode cX10_rounds 7 = .ok (.aload_n 0, 1) := by decide +kernel
theorem dX10_rounds_8 : decode cX10_rounds 8 = .ok (.invokevirtual 313, 3) := by decide +kernel
theorem dX10_rounds_11 : decode cX10_rounds 11 = .ok (.aload_n 0, 1) := by decide +kernel
theorem dX10_rounds_12 : decode cX10_rounds 12 = .ok (.getfield 7, 3) := by decide +kernel
theorem dX10_rounds_15 : decode cX10_rounds 15 = .ok (.iconst 1, 1) := by decide +kernel
theorem dX10_rounds_16 : decode cX10_rounds 16 = .ok (.iaload, 1) := by decide +kernel
theorem dX10_rounds_17 : decode cX10_rounds 17 = .ok (.idiv, 1) := by decide +kernel
theorem dX10_rounds_18 : decode cX10_rounds 18 = .ok (.goto 5, 3) := by decide +kernel
theorem dX10_rounds_21 : decode cX10_rounds 21 = .ok (.bipush (-2), 2) := by decide +kernel
theorem dX10_rounds_23 : decode cX10_rounds 23 = .ok (.ireturn, 1) := by decide +kernel
theorem dX10_lostOf_0 : decode cX10_lostOf 0 = .ok (.iconst 0, 1) := by decide +kernel
theorem dX10_lostOf_1 : decode cX10_lostOf 1 = .ok (.istore_n 2, 1) := by decide +kernel
theorem dX10_lostOf_2 : decode cX10_lostOf 2 = .ok (.iconst 0, 1) := by decide +kernel
theorem dX10_lostOf_3 : decode cX10_lostOf 3 = .ok (.istore_n 3, 1) := by decide +kernel
theorem dX10_lostOf_4 : decode cX10_lostOf 4 = .ok (.iload_n 3, 1) := by decide +kernel
theorem dX10_lostOf_5 : decode cX10_lostOf 5 = .ok (.aload_n 0, 1) := by decide +kernel
theorem dX10_lostOf_6 : decode cX10_lostOf 6 = .ok (.getfield 261, 3) := by decide +kernel
theorem dX10_lostOf_9 : decode cX10_lostOf 9 = .ok (.if_icmp .ge 36, 3) := by decide +kernel
theorem dX10_lostOf_12 : decode cX10_lostOf 12 = .ok (.iload_n 2, 1) := by decide +kernel
theorem dX10_lostOf_13 : decode cX10_lostOf 13 = .ok (.iload_n 1, 1) := by decide +kernel
theorem dX10_lostOf_14 : decode cX10_lostOf 14 = .ok (.iconst (-1), 1) := by decide +kernel
theorem dX10_lostOf_15 : decode cX10_lostOf 15 = .ok (.if_icmp .eq 13, 3) := by decide +kernel
theorem dX10_lostOf_18 : decode cX10_lostOf 18 = .ok (.aload_n 0, 1) := by decide +kernel
theorem dX10_lostOf_19 : decode cX10_lostOf 19 = .ok (.getfield 45, 3) := by decide +kernel
theorem dX10_lostOf_22 : decode cX10_lostOf 22 = .ok (.iload_n 3, 1) := by decide +kernel
theorem dX10_lostOf_23 : decode cX10_lostOf 23 = .ok (.iaload, 1) := by decide +kernel
theorem dX10_lostOf_24 : decode cX10_lostOf 24 = .ok (.iload_n 1, 1) := by decide +kernel
theorem dX10_lostOf_25 : decode cX10_lostOf 25 = .ok (.if_icmp .ne 11, 3) := by decide +kernel
theorem dX10_lostOf_28 : decode cX10_lostOf 28 = .ok (.aload_n 0, 1) := by decide +kernel
theorem dX10_lostOf_29 : decode cX10_lostOf 29 = .ok (.iload_n 3, 1) := by decide +kernel
theorem dX10_lostOf_30 : decode cX10_lostOf 30 = .ok (.invokevirtual 316, 3) := by decide +kernel
theorem dX10_lostOf_33 : decode cX10_lostOf 33 = .ok (.goto 4, 3) := by decide +kernel
theorem dX10_lostOf_36 : decode cX10_lostOf 36 = .ok (.iconst 0, 1) := by decide +kernel
theorem dX10_lostOf_37 : decode cX10_lostOf 37 = .ok (.iadd, 1) := by decide +kernel
theorem dX10_lostOf_38 : decode cX10_lostOf 38 = .ok (.istore_n 2, 1) := by decide +kernel
theorem dX10_lostOf_39 : decode cX10_lostOf 39 = .ok (.iinc 3 1, 3) := by decide +kernel
theorem dX10_lostOf_42 : decode cX10_lostOf 42 = .ok (.goto (-38), 3) := by decide +kernel
theorem dX10_lostOf_45 : decode cX10_lostOf 45 = .ok (.iload_n 2, 1) := by decide +kernel
theorem dX10_lostOf_46 : decode cX10_lostOf 46 = .ok (.ireturn, 1) := by decide +kernel
theorem dX10_lost_0 : decode cX10_lost 0 = .ok (.aload_n 0, 1) := by decide +kernel
theorem dX10_lost_1 : decode cX10_lost 1 = .ok (.invokevirtual 307, 3) := by decide +kernel
theorem dX10_lost_4 : decode cX10_lost 4 = .ok (.ifCond .ne 6, 3) := by decide +kernel
theorem dX10_lost_7 : decode cX10_lost 7 = .ok (.bipush (-2), 2) := by decide +kernel
theorem dX10_lost_9 : decode cX10_lost 9 = .ok (.ireturn, 1) := by decide +kernel
theorem dX10_lost_10 : decode cX10_lost 10 = .ok (.aload_n 0, 1) := by decide +kernel
theorem dX10_lost_11 : decode cX10_lost 11 = .ok (.invokevirtual 313, 3) := by decide +kernel
theorem dX10_lost_14 : decode cX10_lost 14 = .ok (.istore_n 1, 1) := by decide +kernel
theorem dX10_lost_15 : decode cX10_lost 15 = .ok (.aload_n 0, 1) := by decide +kernel
theorem dX10_lost_16 : decode cX10_lost 16 = .ok (.iconst (-1), 1) := by decide +kernel
theorem dX10_lost_17 : decode cX10_lost 17 = .ok (.invokevirtual 319, 3) := by decide +kernel
theorem dX10_lost_20 : decode cX10_lost 20 = .ok (.ireturn, 1) := by decide +kernel
theorem dX10_lostFor_0 : decode cX10_lostFor 0 = .ok (.aload_n 0, 1) := by decide +kernel
theorem dX10_lostFor_1 : decode cX10_lostFor 1 = .ok (.invokevirtual 307, 3) := by decide +kernel
theorem dX10_lostFor_4 : decode cX10_lostFor 4 = .ok (.ifCond .eq 11, 3) := by decide +kernel
theorem dX10_lostFor_7 : decode cX10_lostFor 7 = .ok (.aload_n 0, 1) := by decide +kernel
theorem dX10_lostFor_8 : decode cX10_lostFor 8 = .ok (.iload_n 1, 1) := by decide +kernel
theorem dX10_lostFor_9 : decode cX10_lostFor 9 = .ok (.invokevirtual 252, 3) := by decide +kernel
theorem dX10_lostFor_12 : decode cX10_lostFor 12 = .ok (.ifCond .ne 6, 3) := by decide +kernel
theorem dX10_lostFor_15 : decode cX10_lostFor 15 = .ok (.bipush (-2), 2) := by decide +kernel
theorem dX10_lostFor_17 : decode cX10_lostFor 17 = .ok (.ireturn, 1) := by decide +kernel
theorem dX10_lostFor_18 : decode cX10_lostFor 18 = .ok (.aload_n 0, 1) := by decide +kernel
theorem dX10_lostFor_19 : decode cX10_lostFor 19 = .ok (.invokevirtual 313, 3) := by decide +kernel
theorem dX10_lostFor_22 : decode cX10_lostFor 22 = .ok (.istore_n 2, 1) := by decide +kernel
theorem dX10_lostFor_23 : decode cX10_lostFor 23 = .ok (.aload_n 0, 1) := by decide +kernel
theorem dX10_lostFor_24 : decode cX10_lostFor 24 = .ok (.iload_n 1, 1) := by decide +kernel
theorem dX10_lostFor_25 : decode cX10_lostFor 25 = .ok (.invokevirtual 319, 3) := by decide +kernel
theorem dX10_lostFor_28 : decode cX10_lostFor 28 = .ok (.ireturn, 1) := by decide +kernel
theorem dX10_worst_0 : decode cX10_worst 0 = .ok (.aload_n 0, 1) := by decide +kernel
theorem dX10_worst_1 : decode cX10_worst 1 = .ok (.invokevirtual 307, 3) := by decide +kernel
theorem dX10_worst_4 : decode cX10_worst 4 = .ok (.ifCond .ne 6, 3) := by decide +kernel
theorem dX10_worst_7 : decode cX10_worst 7 = .ok (.bipush (-2), 2) := by decide +kernel
theorem dX10_worst_9 : decode cX10_worst 9 = .ok (.ireturn, 1) := by decide +kernel
theorem dX10_worst_10 : decode cX10_worst 10 = .ok (.aload_n 0, 1) := by decide +kernel
theorem dX10_worst_11 : decode cX10_worst 11 = .ok (.invokevirtual 313, 3) := by decide +kernel
theorem dX10_worst_14 : decode cX10_worst 14 = .ok (.istore_n 1, 1) := by decide +kernel
theorem dX10_worst_15 : decode cX10_worst 15 = .ok (.iconst (-1), 1) := by decide +kernel
theorem dX10_worst_16 : decode cX10_worst 16 = .ok (.istore_n 2, 1) := by decide +kernel
theorem dX10_worst_17 : decode cX10_worst 17 = .ok (.iconst 0, 1) := by decide +kernel
theorem dX10_worst_18 : decode cX10_worst 18 = .ok (.istore_n 3, 1) := by decide +kernel
theorem dX10_worst_19 : decode cX10_worst 19 = .ok (.iload_n 3, 1) := by decide +kernel
theorem dX10_worst_20 : decode cX10_worst 20 = .ok (.aload_n 0, 1) := by decide +kernel
theorem dX10_worst_21 : decode cX10_worst 21 = .ok (.getfield 7, 3) := by decide +kernel
theorem dX10_worst_24 : decode cX10_worst 24 = .ok (.iconst 5, 1) := by decide +kernel
theorem dX10_worst_25 : decode cX10_worst 25 = .ok (.iaload, 1) := by decide +kernel
theorem dX10_worst_26 : decode cX10_worst 26 = .ok (.if_icmp .ge 37, 3) := by decide +kernel
theorem dX10_worst_29 : decode cX10_worst 29 = .ok (.aload_n 0, 1) := by decide +kernel
theorem dX10_worst_30 : decode cX10_worst 30 = .ok (.iload_n 3, 1) := by decide +kernel
theorem dX10_worst_31 : decode cX10_worst 31 = .ok (.invokevirtual 319, 3) := by decide +kernel
theorem dX10_worst_34 : decode cX10_worst 34 = .ok (.iload_n 2, 1) := by decide +kernel
theorem dX10_worst_35 : decode cX10_worst 35 = .ok (.iconst (-1), 1) := by decide +kernel
theorem dX10_worst_36 : decode cX10_worst 36 = .ok (.if_icmp .ne 7, 3) := by decide +kernel
theorem dX10_worst_39 : decode cX10_worst 39 = .ok (.iconst 0, 1) := by decide +kernel
theorem dX10_worst_40 : decode cX10_worst 40 = .ok (.goto 8, 3) := by decide +kernel
theorem dX10_worst_43 : decode cX10_worst 43 = .ok (.aload_n 0, 1) := by decide +kernel
theorem dX10_worst_44 : decode cX10_worst 44 = .ok (.iload_n 2, 1) := by decide +kernel
theorem dX10_worst_45 : decode cX10_worst 45 = .ok (.invokevirtual 319, 3) := by decide +kernel
theorem dX10_worst_48 : decode cX10_worst 48 = .ok (.if_icmp .le 7, 3) := by decide +kernel
theorem dX10_worst_51 : decode cX10_worst 51 = .ok (.iload_n 3, 1) := by decide +kernel
theorem dX10_worst_52 : decode cX10_worst 52 = .ok (.goto 4, 3) := by decide +kernel
theorem dX10_worst_55 : decode cX10_worst 55 = .ok (.iload_n 2, 1) := by decide +kernel
theorem dX10_worst_56 : decode cX10_worst 56 = .ok (.istore_n 2, 1) := by decide +kernel
theorem dX10_worst_57 : decode cX10_worst 57 = .ok (.iinc 3 1, 3) := by decide +kernel
theorem dX10_worst_60 : decode cX10_worst 60 = .ok (.goto (-41), 3) := by decide +kernel
theorem dX10_worst_63 : decode cX10_worst 63 = .ok (.iload_n 2, 1) := by decide +kernel
theorem dX10_worst_64 : decode cX10_worst 64 = .ok (.ireturn, 1) := by decide +kernel
theorem dX10_met_0 : decode cX10_met 0 = .ok (.aload_n 0, 1) := by decide +kernel
theorem dX10_met_1 : decode cX10_met 1 = .ok (.invokevirtual 307, 3) := by decide +kernel
theorem dX10_met_4 : decode cX10_met 4 = .ok (.ifCond .eq 11, 3) := by decide +kernel
theorem dX10_met_7 : decode cX10_met 7 = .ok (.aload_n 0, 1) := by decide +kernel
theorem dX10_met_8 : decode cX10_met 8 = .ok (.iload_n 1, 1) := by decide +kernel
theorem dX10_met_9 : decode cX10_met 9 = .ok (.invokevirtual 252, 3) := by decide +kernel
theorem dX10_met_12 : decode cX10_met 12 = .ok (.ifCond .ne 6, 3) := by decide +kernel
theorem dX10_met_15 : decode cX10_met 15 = .ok (.bipush (-2), 2) := by decide +kernel
theorem dX10_met_17 : decode cX10_met 17 = .ok (.ireturn, 1) := by decide +kernel
theorem dX10_met_18 : decode cX10_met 18 = .ok (.aload_n 0, 1) := by decide +kernel
theorem dX10_met_19 : decode cX10_met 19 = .ok (.invokevirtual 301, 3) := by decide +kernel
theorem dX10_met_22 : decode cX10_met 22 = .ok (.iconst 0, 1) := by decide +kernel
theorem dX10_met_23 : decode cX10_met 23 = .ok (.istore_n 2, 1) := by decide +kernel
theorem dX10_met_24 : decode cX10_met 24 = .ok (.iconst 0, 1) := by decide +kernel
theorem dX10_met_25 : decode cX10_met 25 = .ok (.istore_n 3, 1) := by decide +kernel
theorem dX10_met_26 : decode cX10_met 26 = .ok (.iload_n 3, 1) := by decide +kernel
theorem dX10_met_27 : decode cX10_met 27 = .ok (.aload_n 0, 1) := by decide +kernel
theorem dX10_met_28 : decode cX10_met 28 = .ok (.getfield 261, 3) := by decide +kernel
theorem dX10_met_31 : decode cX10_met 31 = .ok (.if_icmp .ge 27, 3) := by decide +kernel
theorem dX10_met_34 : decode cX10_met 34 = .ok (.iload_n 2, 1) := by decide +kernel
theorem dX10_met_35 : decode cX10_met 35 = .ok (.aload_n 0, 1) := by decide +kernel
theorem dX10_met_36 : decode cX10_met 36 = .ok (.getfield 45, 3) := by decide +kernel
theorem dX10_met_39 : decode cX10_met 39 = .ok (.iload_n 3, 1) := by decide +kernel
theorem dX10_met_40 : decode cX10_met 40 = .ok (.iaload, 1) := by decide +kernel
theorem dX10_met_41 : decode cX10_met 41 = .ok (.iload_n 1, 1) := by decide +kernel
theorem dX10_met_42 : decode cX10_met 42 = .ok (.if_icmp .ne 7, 3) := by decide +kernel
theorem dX10_met_45 : decode cX10_met 45 = .ok (.iconst 1, 1) := by decide +kernel
theorem dX10_met_46 : decode cX10_met 46 = .ok (.goto 4, 3) := by decide +kernel
theorem dX10_met_49 : decode cX10_met 49 = .ok (.iconst 0, 1) := by decide +kernel
theorem dX10_met_50 : decode cX10_met 50 = .ok (.iadd, 1) := by decide +kernel
theorem dX10_met_51 : decode cX10_met 51 = .ok (.istore_n 2, 1) := by decide +kernel
theorem dX10_met_52 : decode cX10_met 52 = .ok (.iinc 3 1, 3) := by decide +kernel
theorem dX10_met_55 : decode cX10_met 55 = .ok (.goto (-29), 3) := by decide +kernel
theorem dX10_met_58 : decode cX10_met 58 = .ok (.iload_n 2, 1) := by decide +kernel
theorem dX10_met_59 : decode cX10_met 59 = .ok (.ireturn, 1) := by decide +kernel
theorem dX10_bound_0 : decode cX10_bound 0 = .ok (.aload_n 0, 1) := by decide +kernel
theorem dX10_bound_1 : decode cX10_bound 1 = .ok (.invokevirtual 307, 3) := by decide +kernel
theorem dX10_bound_4 : decode cX10_bound 4 = .ok (.ifCond .eq 23, 3) := by decide +kernel
theorem dX10_bound_7 : decode cX10_bound 7 = .ok (.aload_n 0, 1) := by decide +kernel
theorem dX10_bound_8 : decode cX10_bound 8 = .ok (.invokevirtual 313, 3) := by decide +kernel
theorem dX10_bound_11 : decode cX10_bound 11 = .ok (.aload_n 0, 1) := by decide +kernel
theorem dX10_bound_12 : decode cX10_bound 12 = .ok (.iconst (-1), 1) := by decide +kernel
theorem dX10_bound_13 : decode cX10_bound 13 = .ok (.invokevirtual 319, 3) := by decide +kernel
theorem dX10_bound_16 : decode cX10_bound 16 = .ok (.isub, 1) := by decide +kernel
theorem dX10_bound_17 : decode cX10_bound 17 = .ok (.aload_n 0, 1) := by decide +kernel
theorem dX10_bound_18 : decode cX10_bound 18 = .ok (.getfield 51, 3) := by decide +kernel
theorem dX10_bound_21 : decode cX10_bound 21 = .ok (.iconst 0, 1) := by decide +kernel
theorem dX10_bound_22 : decode cX10_bound 22 = .ok (.iaload, 1) := by decide +kernel
theorem dX10_bound_23 : decode cX10_bound 23 = .ok (.iadd, 1) := by decide +kernel
theorem dX10_bound_24 : decode cX10_bound 24 = .ok (.goto 5, 3) := by decide +kernel
theorem dX10_bound_27 : decode cX10_bound 27 = .ok (.bipush (-2), 2) := by decide +kernel
theorem dX10_bound_29 : decode cX10_bound 29 = .ok (.ireturn, 1) := by decide +kernel
theorem dX10_waiting_0 : decode cX10_waiting 0 = .ok (.aload_n 0, 1) := by decide +kernel
theorem dX10_waiting_1 : decode cX10_waiting 1 = .ok (.invokevirtual 307, 3) := by decide +kernel
theorem dX10_waiting_4 : decode cX10_waiting 4 = .ok (.ifCond .eq 15, 3) := by decide +kernel
theorem dX10_waiting_7 : decode cX10_waiting 7 = .ok (.iload_n 1, 1) := by decide +kernel
theorem dX10_waiting_8 : decode cX10_waiting 8 = .ok (.i2l, 1) := by decide +kernel
theorem dX10_waiting_9 : decode cX10_waiting 9 = .ok (.lconst 0, 1) := by decide +kernel
theorem dX10_waiting_10 : decode cX10_waiting 10 = .ok (.ldc2_w 322, 3) := by decide +kernel
theorem dX10_waiting_13 : decode cX10_waiting 13 = .ok (.invokestatic 96, 3) := by decide +kernel
theorem dX10_waiting_16 : decode cX10_waiting 16 = .ok (.ifCond .ne 6, 3) := by decide +kernel
theorem dX10_waiting_19 : decode cX10_waiting 19 = .ok (.bipush (-2), 2) := by decide +kernel
theorem dX10_waiting_21 : decode cX10_waiting 21 = .ok (.ireturn, 1) := by decide +kernel
theorem dX10_waiting_22 : decode cX10_waiting 22 = .ok (.aload_n 0, 1) := by decide +kernel
theorem dX10_waiting_23 : decode cX10_waiting 23 = .ok (.invokevirtual 298, 3) := by decide +kernel
theorem dX10_waiting_26 : decode cX10_waiting 26 = .ok (.aload_n 0, 1) := by decide +kernel
theorem dX10_waiting_27 : decode cX10_waiting 27 = .ok (.iload_n 1, 1) := by decide +kernel
theorem dX10_waiting_28 : decode cX10_waiting 28 = .ok (.putfield 288, 3) := by decide +kernel
theorem dX10_waiting_31 : decode cX10_waiting 31 = .ok (.aload_n 0, 1) := by decide +kernel
theorem dX10_waiting_32 : decode cX10_waiting 32 = .ok (.invokevirtual 301, 3) := by decide +kernel
theorem dX10_waiting_35 : decode cX10_waiting 35 = .ok (.aload_n 0, 1) := by decide +kernel
theorem dX10_waiting_36 : decode cX10_waiting 36 = .ok (.invokevirtual 304, 3) := by decide +kernel
theorem dX10_waiting_39 : decode cX10_waiting 39 = .ok (.ireturn, 1) := by decide +kernel
theorem dX10_quicker_0 : decode cX10_quicker 0 = .ok (.aload_n 0, 1) := by decide +kernel
theorem dX10_quicker_1 : decode cX10_quicker 1 = .ok (.invokevirtual 307, 3) := by decide +kernel
theorem dX10_quicker_4 : decode cX10_quicker 4 = .ok (.ifCond .eq 11, 3) := by decide +kernel
theorem dX10_quicker_7 : decode cX10_quicker 7 = .ok (.aload_n 0, 1) := by decide +kernel
theorem dX10_quicker_8 : decode cX10_quicker 8 = .ok (.iload_n 1, 1) := by decide +kernel
theorem dX10_quicker_9 : decode cX10_quicker 9 = .ok (.invokevirtual 181, 3) := by decide +kernel
theorem dX10_quicker_12 : decode cX10_quicker 12 = .ok (.ifCond .ne 6, 3) := by decide +kernel
theorem dX10_quicker_15 : decode cX10_quicker 15 = .ok (.bipush (-2), 2) := by decide +kernel
theorem dX10_quicker_17 : decode cX10_quicker 17 = .ok (.ireturn, 1) := by decide +kernel
theorem dX10_quicker_18 : decode cX10_quicker 18 = .ok (.aload_n 0, 1) := by decide +kernel
end
section
theorem dX10_quicker_19 : decode cX10_quicker 19 = .ok (.invokevirtual 298, 3) := by decide +kernel
theorem dX10_quicker_22 : decode cX10_quicker 22 = .ok (.aload_n 0, 1) := by decide +kernel
theorem dX10_quicker_23 : decode cX10_quicker 23 = .ok (.iload_n 1, 1) := by decide +kernel
theorem dX10_quicker_24 : decode cX10_quicker 24 = .ok (.putfield 290, 3) := by decide +kernel
theorem dX10_quicker_27 : decode cX10_quicker 27 = .ok (.aload_n 0, 1) := by decide +kernel
theorem dX10_quicker_28 : decode cX10_quicker 28 = .ok (.invokevirtual 301, 3) := by decide +kernel
theorem dX10_quicker_31 : decode cX10_quicker 31 = .ok (.aload_n 0, 1) := by decide +kernel
theorem dX10_quicker_32 : decode cX10_quicker 32 = .ok (.invokevirtual 304, 3) := by decide +kernel
theorem dX10_quicker_35 : decode cX10_quicker 35 = .ok (.ireturn, 1) := by decide +kernel
theorem dX10_timeMoved_0 : decode cX10_timeMoved 0 = .ok (.aload_n 0, 1) := by decide +kernel
theorem dX10_timeMoved_1 : decode cX10_timeMoved 1 = .ok (.getfield 72, 3) := by decide +kernel
theorem dX10_timeMoved_4 : decode cX10_timeMoved 4 = .ok (.iload_n 1, 1) := by decide +kernel
theorem dX10_timeMoved_5 : decode cX10_timeMoved 5 = .ok (.iaload, 1) := by decide +kernel
theorem dX10_timeMoved_6 : decode cX10_timeMoved 6 = .ok (.istore_n 3, 1) := by decide +kernel
theorem dX10_timeMoved_7 : decode cX10_timeMoved 7 = .ok (.aload_n 0, 1) := by decide +kernel
theorem dX10_timeMoved_8 : decode cX10_timeMoved 8 = .ok (.getfield 72, 3) := by decide +kernel
theorem dX10_timeMoved_11 : decode cX10_timeMoved 11 = .ok (.iload_n 1, 1) := by decide +kernel
theorem dX10_timeMoved_12 : decode cX10_timeMoved 12 = .ok (.iload_n 2, 1) := by decide +kernel
theorem dX10_timeMoved_13 : decode cX10_timeMoved 13 = .ok (.iastore, 1) := by decide +kernel
theorem dX10_timeMoved_14 : decode cX10_timeMoved 14 = .ok (.aload_n 0, 1) := by decide +kernel
theorem dX10_timeMoved_15 : decode cX10_timeMoved 15 = .ok (.invokevirtual 304, 3) := by decide +kernel
theorem dX10_timeMoved_18 : decode cX10_timeMoved 18 = .ok (.istore 4, 2) := by decide +kernel
theorem dX10_timeMoved_20 : decode cX10_timeMoved 20 = .ok (.aload_n 0, 1) := by decide +kernel
theorem dX10_timeMoved_21 : decode cX10_timeMoved 21 = .ok (.getfield 72, 3) := by decide +kernel
theorem dX10_timeMoved_24 : decode cX10_timeMoved 24 = .ok (.iload_n 1, 1) := by decide +kernel
theorem dX10_timeMoved_25 : decode cX10_timeMoved 25 = .ok (.iload_n 3, 1) := by decide +kernel
theorem dX10_timeMoved_26 : decode cX10_timeMoved 26 = .ok (.iastore, 1) := by decide +kernel
theorem dX10_timeMoved_27 : decode cX10_timeMoved 27 = .ok (.iload 4, 2) := by decide +kernel
theorem dX10_timeMoved_29 : decode cX10_timeMoved 29 = .ok (.ireturn, 1) := by decide +kernel
theorem dX10_timeSwapped_0 : decode cX10_timeSwapped 0 = .ok (.aload_n 0, 1) := by decide +kernel
theorem dX10_timeSwapped_1 : decode cX10_timeSwapped 1 = .ok (.getfield 72, 3) := by decide +kernel
theorem dX10_timeSwapped_4 : decode cX10_timeSwapped 4 = .ok (.iload_n 1, 1) := by decide +kernel
theorem dX10_timeSwapped_5 : decode cX10_timeSwapped 5 = .ok (.iaload, 1) := by decide +kernel
theorem dX10_timeSwapped_6 : decode cX10_timeSwapped 6 = .ok (.istore_n 3, 1) := by decide +kernel
theorem dX10_timeSwapped_7 : decode cX10_timeSwapped 7 = .ok (.aload_n 0, 1) := by decide +kernel
theorem dX10_timeSwapped_8 : decode cX10_timeSwapped 8 = .ok (.getfield 72, 3) := by decide +kernel
theorem dX10_timeSwapped_11 : decode cX10_timeSwapped 11 = .ok (.iload_n 2, 1) := by decide +kernel
theorem dX10_timeSwapped_12 : decode cX10_timeSwapped 12 = .ok (.iaload, 1) := by decide +kernel
theorem dX10_timeSwapped_13 : decode cX10_timeSwapped 13 = .ok (.istore 4, 2) := by decide +kernel
theorem dX10_timeSwapped_15 : decode cX10_timeSwapped 15 = .ok (.aload_n 0, 1) := by decide +kernel
theorem dX10_timeSwapped_16 : decode cX10_timeSwapped 16 = .ok (.getfield 72, 3) := by decide +kernel
theorem dX10_timeSwapped_19 : decode cX10_timeSwapped 19 = .ok (.iload_n 1, 1) := by decide +kernel
theorem dX10_timeSwapped_20 : decode cX10_timeSwapped 20 = .ok (.iload 4, 2) := by decide +kernel
theorem dX10_timeSwapped_22 : decode cX10_timeSwapped 22 = .ok (.iastore, 1) := by decide +kernel
theorem dX10_timeSwapped_23 : decode cX10_timeSwapped 23 = .ok (.aload_n 0, 1) := by decide +kernel
theorem dX10_timeSwapped_24 : decode cX10_timeSwapped 24 = .ok (.getfield 72, 3) := by decide +kernel
theorem dX10_timeSwapped_27 : decode cX10_timeSwapped 27 = .ok (.iload_n 2, 1) := by decide +kernel
theorem dX10_timeSwapped_28 : decode cX10_timeSwapped 28 = .ok (.iload_n 3, 1) := by decide +kernel
theorem dX10_timeSwapped_29 : decode cX10_timeSwapped 29 = .ok (.iastore, 1) := by decide +kernel
theorem dX10_timeSwapped_30 : decode cX10_timeSwapped 30 = .ok (.aload_n 0, 1) := by decide +kernel
theorem dX10_timeSwapped_31 : decode cX10_timeSwapped 31 = .ok (.invokevirtual 304, 3) := by decide +kernel
theorem dX10_timeSwapped_34 : decode cX10_timeSwapped 34 = .ok (.istore 5, 2) := by decide +kernel
theorem dX10_timeSwapped_36 : decode cX10_timeSwapped 36 = .ok (.aload_n 0, 1) := by decide +kernel
theorem dX10_timeSwapped_37 : decode cX10_timeSwapped 37 = .ok (.getfield 72, 3) := by decide +kernel
theorem dX10_timeSwapped_40 : decode cX10_timeSwapped 40 = .ok (.iload_n 1, 1) := by decide +kernel
theorem dX10_timeSwapped_41 : decode cX10_timeSwapped 41 = .ok (.iload_n 3, 1) := by decide +kernel
theorem dX10_timeSwapped_42 : decode cX10_timeSwapped 42 = .ok (.iastore, 1) := by decide +kernel
theorem dX10_timeSwapped_43 : decode cX10_timeSwapped 43 = .ok (.aload_n 0, 1) := by decide +kernel
theorem dX10_timeSwapped_44 : decode cX10_timeSwapped 44 = .ok (.getfield 72, 3) := by decide +kernel
theorem dX10_timeSwapped_47 : decode cX10_timeSwapped 47 = .ok (.iload_n 2, 1) := by decide +kernel
theorem dX10_timeSwapped_48 : decode cX10_timeSwapped 48 = .ok (.iload 4, 2) := by decide +kernel
theorem dX10_timeSwapped_50 : decode cX10_timeSwapped 50 = .ok (.iastore, 1) := by decide +kernel
theorem dX10_timeSwapped_51 : decode cX10_timeSwapped 51 = .ok (.iload 5, 2) := by decide +kernel
theorem dX10_timeSwapped_53 : decode cX10_timeSwapped 53 = .ok (.ireturn, 1) := by decide +kernel
theorem dX10_isFree_0 : decode cX10_isFree 0 = .ok (.aload_n 0, 1) := by decide +kernel
theorem dX10_isFree_1 : decode cX10_isFree 1 = .ok (.getfield 7, 3) := by decide +kernel
theorem dX10_isFree_4 : decode cX10_isFree 4 = .ok (.sipush 129, 3) := by decide +kernel
theorem dX10_isFree_7 : decode cX10_isFree 7 = .ok (.iload_n 1, 1) := by decide +kernel
theorem dX10_isFree_8 : decode cX10_isFree 8 = .ok (.iadd, 1) := by decide +kernel
theorem dX10_isFree_9 : decode cX10_isFree 9 = .ok (.iaload, 1) := by decide +kernel
theorem dX10_isFree_10 : decode cX10_isFree 10 = .ok (.iconst (-1), 1) := by decide +kernel
theorem dX10_isFree_11 : decode cX10_isFree 11 = .ok (.if_icmp .ne 7, 3) := by decide +kernel
theorem dX10_isFree_14 : decode cX10_isFree 14 = .ok (.iconst 1, 1) := by decide +kernel
theorem dX10_isFree_15 : decode cX10_isFree 15 = .ok (.goto 4, 3) := by decide +kernel
theorem dX10_isFree_18 : decode cX10_isFree 18 = .ok (.iconst 0, 1) := by decide +kernel
theorem dX10_isFree_19 : decode cX10_isFree 19 = .ok (.ireturn, 1) := by decide +kernel
theorem dX10_whyNot_0 : decode cX10_whyNot 0 = .ok (.aload_n 0, 1) := by decide +kernel
theorem dX10_whyNot_1 : decode cX10_whyNot 1 = .ok (.invokevirtual 307, 3) := by decide +kernel
theorem dX10_whyNot_4 : decode cX10_whyNot 4 = .ok (.ifCond .eq 27, 3) := by decide +kernel
theorem dX10_whyNot_7 : decode cX10_whyNot 7 = .ok (.aload_n 0, 1) := by decide +kernel
theorem dX10_whyNot_8 : decode cX10_whyNot 8 = .ok (.iload_n 1, 1) := by decide +kernel
theorem dX10_whyNot_9 : decode cX10_whyNot 9 = .ok (.invokevirtual 252, 3) := by decide +kernel
theorem dX10_whyNot_12 : decode cX10_whyNot 12 = .ok (.ifCond .eq 19, 3) := by decide +kernel
theorem dX10_whyNot_15 : decode cX10_whyNot 15 = .ok (.iload_n 2, 1) := by decide +kernel
theorem dX10_whyNot_16 : decode cX10_whyNot 16 = .ok (.i2l, 1) := by decide +kernel
theorem dX10_whyNot_17 : decode cX10_whyNot 17 = .ok (.lconst 0, 1) := by decide +kernel
theorem dX10_whyNot_18 : decode cX10_whyNot 18 = .ok (.aload_n 0, 1) := by decide +kernel
theorem dX10_whyNot_19 : decode cX10_whyNot 19 = .ok (.invokevirtual 218, 3) := by decide +kernel
theorem dX10_whyNot_22 : decode cX10_whyNot 22 = .ok (.iconst 1, 1) := by decide +kernel
theorem dX10_whyNot_23 : decode cX10_whyNot 23 = .ok (.isub, 1) := by decide +kernel
theorem dX10_whyNot_24 : decode cX10_whyNot 24 = .ok (.i2l, 1) := by decide +kernel
theorem dX10_whyNot_25 : decode cX10_whyNot 25 = .ok (.invokestatic 96, 3) := by decide +kernel
theorem dX10_whyNot_28 : decode cX10_whyNot 28 = .ok (.ifCond .ne 6, 3) := by decide +kernel
theorem dX10_whyNot_31 : decode cX10_whyNot 31 = .ok (.bipush (-2), 2) := by decide +kernel
theorem dX10_whyNot_33 : decode cX10_whyNot 33 = .ok (.ireturn, 1) := by decide +kernel
theorem dX10_whyNot_34 : decode cX10_whyNot 34 = .ok (.aload_n 0, 1) := by decide +kernel
theorem dX10_whyNot_35 : decode cX10_whyNot 35 = .ok (.iload_n 1, 1) := by decide +kernel
theorem dX10_whyNot_36 : decode cX10_whyNot 36 = .ok (.invokevirtual 324, 3) := by decide +kernel
theorem dX10_whyNot_39 : decode cX10_whyNot 39 = .ok (.ifCond .eq 25, 3) := by decide +kernel
theorem dX10_whyNot_42 : decode cX10_whyNot 42 = .ok (.aload_n 0, 1) := by decide +kernel
theorem dX10_whyNot_43 : decode cX10_whyNot 43 = .ok (.iload_n 2, 1) := by decide +kernel
theorem dX10_whyNot_44 : decode cX10_whyNot 44 = .ok (.invokevirtual 255, 3) := by decide +kernel
theorem dX10_whyNot_47 : decode cX10_whyNot 47 = .ok (.iconst (-1), 1) := by decide +kernel
theorem dX10_whyNot_48 : decode cX10_whyNot 48 = .ok (.if_icmp .eq 12, 3) := by decide +kernel
theorem dX10_whyNot_51 : decode cX10_whyNot 51 = .ok (.aload_n 0, 1) := by decide +kernel
theorem dX10_whyNot_52 : decode cX10_whyNot 52 = .ok (.iload_n 2, 1) := by decide +kernel
theorem dX10_whyNot_53 : decode cX10_whyNot 53 = .ok (.invokevirtual 255, 3) := by decide +kernel
theorem dX10_whyNot_56 : decode cX10_whyNot 56 = .ok (.iload_n 1, 1) := by decide +kernel
theorem dX10_whyNot_57 : decode cX10_whyNot 57 = .ok (.if_icmp .ne 7, 3) := by decide +kernel
theorem dX10_whyNot_60 : decode cX10_whyNot 60 = .ok (.iconst 0, 1) := by decide +kernel
theorem dX10_whyNot_61 : decode cX10_whyNot 61 = .ok (.goto 5, 3) := by decide +kernel
theorem dX10_whyNot_64 : decode cX10_whyNot 64 = .ok (.bipush (-5), 2) := by decide +kernel
theorem dX10_whyNot_66 : decode cX10_whyNot 66 = .ok (.ireturn, 1) := by decide +kernel
theorem dX10_moved_0 : decode cX10_moved 0 = .ok (.aload_n 0, 1) := by decide +kernel
theorem dX10_moved_1 : decode cX10_moved 1 = .ok (.iload_n 1, 1) := by decide +kernel
theorem dX10_moved_2 : decode cX10_moved 2 = .ok (.iload_n 2, 1) := by decide +kernel
theorem dX10_moved_3 : decode cX10_moved 3 = .ok (.invokevirtual 327, 3) := by decide +kernel
theorem dX10_moved_6 : decode cX10_moved 6 = .ok (.istore_n 3, 1) := by decide +kernel
theorem dX10_moved_7 : decode cX10_moved 7 = .ok (.iload_n 3, 1) := by decide +kernel
theorem dX10_moved_8 : decode cX10_moved 8 = .ok (.ifCond .ge 5, 3) := by decide +kernel
theorem dX10_moved_11 : decode cX10_moved 11 = .ok (.iload_n 3, 1) := by decide +kernel
theorem dX10_moved_12 : decode cX10_moved 12 = .ok (.ireturn, 1) := by decide +kernel
theorem dX10_moved_13 : decode cX10_moved 13 = .ok (.aload_n 0, 1) := by decide +kernel
theorem dX10_moved_14 : decode cX10_moved 14 = .ok (.invokevirtual 313, 3) := by decide +kernel
theorem dX10_moved_17 : decode cX10_moved 17 = .ok (.istore 4, 2) := by decide +kernel
theorem dX10_moved_19 : decode cX10_moved 19 = .ok (.aload_n 0, 1) := by decide +kernel
theorem dX10_moved_20 : decode cX10_moved 20 = .ok (.iload_n 1, 1) := by decide +kernel
theorem dX10_moved_21 : decode cX10_moved 21 = .ok (.iload_n 2, 1) := by decide +kernel
theorem dX10_moved_22 : decode cX10_moved 22 = .ok (.invokevirtual 330, 3) := by decide +kernel
theorem dX10_moved_25 : decode cX10_moved 25 = .ok (.ireturn, 1) := by decide +kernel
theorem dX10_whyNotBoth_0 : decode cX10_whyNotBoth 0 = .ok (.aload_n 0, 1) := by decide +kernel
theorem dX10_whyNotBoth_1 : decode cX10_whyNotBoth 1 = .ok (.invokevirtual 307, 3) := by decide +kernel
theorem dX10_whyNotBoth_4 : decode cX10_whyNotBoth 4 = .ok (.ifCond .eq 24, 3) := by decide +kernel
theorem dX10_whyNotBoth_7 : decode cX10_whyNotBoth 7 = .ok (.aload_n 0, 1) := by decide +kernel
theorem dX10_whyNotBoth_8 : decode cX10_whyNotBoth 8 = .ok (.iload_n 1, 1) := by decide +kernel
theorem dX10_whyNotBoth_9 : decode cX10_whyNotBoth 9 = .ok (.invokevirtual 252, 3) := by decide +kernel
theorem dX10_whyNotBoth_12 : decode cX10_whyNotBoth 12 = .ok (.ifCond .eq 16, 3) := by decide +kernel
theorem dX10_whyNotBoth_15 : decode cX10_whyNotBoth 15 = .ok (.aload_n 0, 1) := by decide +kernel
theorem dX10_whyNotBoth_16 : decode cX10_whyNotBoth 16 = .ok (.iload_n 2, 1) := by decide +kernel
theorem dX10_whyNotBoth_17 : decode cX10_whyNotBoth 17 = .ok (.invokevirtual 252, 3) := by decide +kernel
theorem dX10_whyNotBoth_20 : decode cX10_whyNotBoth 20 = .ok (.ifCond .eq 8, 3) := by decide +kernel
theorem dX10_whyNotBoth_23 : decode cX10_whyNotBoth 23 = .ok (.iload_n 1, 1) := by decide +kernel
theorem dX10_whyNotBoth_24 : decode cX10_whyNotBoth 24 = .ok (.iload_n 2, 1) := by decide +kernel
theorem dX10_whyNotBoth_25 : decode cX10_whyNotBoth 25 = .ok (.if_icmp .ne 6, 3) := by decide +kernel
theorem dX10_whyNotBoth_28 : decode cX10_whyNotBoth 28 = .ok (.bipush (-2), 2) := by decide +kernel
theorem dX10_whyNotBoth_30 : decode cX10_whyNotBoth 30 = .ok (.ireturn, 1) := by decide +kernel
theorem dX10_whyNotBoth_31 : decode cX10_whyNotBoth 31 = .ok (.aload_n 0, 1) := by decide +kernel
theorem dX10_whyNotBoth_32 : decode cX10_whyNotBoth 32 = .ok (.iload_n 1, 1) := by decide +kernel
theorem dX10_whyNotBoth_33 : decode cX10_whyNotBoth 33 = .ok (.invokevirtual 324, 3) := by decide +kernel
theorem dX10_whyNotBoth_36 : decode cX10_whyNotBoth 36 = .ok (.ifCond .eq 15, 3) := by decide +kernel
theorem dX10_whyNotBoth_39 : decode cX10_whyNotBoth 39 = .ok (.aload_n 0, 1) := by decide +kernel
theorem dX10_whyNotBoth_40 : decode cX10_whyNotBoth 40 = .ok (.iload_n 2, 1) := by decide +kernel
theorem dX10_whyNotBoth_41 : decode cX10_whyNotBoth 41 = .ok (.invokevirtual 324, 3) := by decide +kernel
theorem dX10_whyNotBoth_44 : decode cX10_whyNotBoth 44 = .ok (.ifCond .eq 7, 3) := by decide +kernel
theorem dX10_whyNotBoth_47 : decode cX10_whyNotBoth 47 = .ok (.iconst 0, 1) := by decide +kernel
theorem dX10_whyNotBoth_48 : decode cX10_whyNotBoth 48 = .ok (.goto 5, 3) := by decide +kernel
theorem dX10_whyNotBoth_51 : decode cX10_whyNotBoth 51 = .ok (.bipush (-5), 2) := by decide +kernel
theorem dX10_whyNotBoth_53 : decode cX10_whyNotBoth 53 = .ok (.ireturn, 1) := by decide +kernel
theorem dX10_swapped_0 : decode cX10_swapped 0 = .ok (.aload_n 0, 1) := by decide +kernel
theorem dX10_swapped_1 : decode cX10_swapped 1 = .ok (.iload_n 1, 1) := by decide +kernel
theorem dX10_swapped_2 : decode cX10_swapped 2 = .ok (.iload_n 2, 1) := by decide +kernel
theorem dX10_swapped_3 : decode cX10_swapped 3 = .ok (.invokevirtual 333, 3) := by decide +kernel
theorem dX10_swapped_6 : decode cX10_swapped 6 = .ok (.istore_n 3, 1) := by decide +kernel
theorem dX10_swapped_7 : decode cX10_swapped 7 = .ok (.iload_n 3, 1) := by decide +kernel
theorem dX10_swapped_8 : decode cX10_swapped 8 = .ok (.ifCond .ge 5, 3) := by decide +kernel
theorem dX10_swapped_11 : decode cX10_swapped 11 = .ok (.iload_n 3, 1) := by decide +kernel
theorem dX10_swapped_12 : decode cX10_swapped 12 = .ok (.ireturn, 1) := by decide +kernel
theorem dX10_swapped_13 : decode cX10_swapped 13 = .ok (.aload_n 0, 1) := by decide +kernel
theorem dX10_swapped_14 : decode cX10_swapped 14 = .ok (.invokevirtual 313, 3) := by decide +kernel
theorem dX10_swapped_17 : decode cX10_swapped 17 = .ok (.istore 4, 2) := by decide +kernel
theorem dX10_swapped_19 : decode cX10_swapped 19 = .ok (.aload_n 0, 1) := by decide +kernel
theorem dX10_swapped_20 : decode cX10_swapped 20 = .ok (.iload_n 1, 1) := by decide +kernel
theorem dX10_swapped_21 : decode cX10_swapped 21 = .ok (.iload_n 2, 1) := by decide +kernel
theorem dX10_swapped_22 : decode cX10_swapped 22 = .ok (.invokevirtual 336, 3) := by decide +kernel
theorem dX10_swapped_25 : decode cX10_swapped 25 = .ok (.ireturn, 1) := by decide +kernel
theorem dX10_best_0 : decode cX10_best 0 = .ok (.aload_n 0, 1) := by decide +kernel
theorem dX10_best_1 : decode cX10_best 1 = .ok (.invokevirtual 307, 3) := by decide +kernel
theorem dX10_best_4 : decode cX10_best 4 = .ok (.ifCond .ne 6, 3) := by decide +kernel
theorem dX10_best_7 : decode cX10_best 7 = .ok (.bipush (-2), 2) := by decide +kernel
theorem dX10_best_9 : decode cX10_best 9 = .ok (.ireturn, 1) := by decide +kernel
theorem dX10_best_10 : decode cX10_best 10 = .ok (.aload_n 0, 1) := by decide +kernel
theorem dX10_best_11 : decode cX10_best 11 = .ok (.invokevirtual 313, 3) := by decide +kernel
theorem dX10_best_14 : decode cX10_best 14 = .ok (.istore_n 1, 1) := by decide +kernel
theorem dX10_best_15 : decode cX10_best 15 = .ok (.iconst (-1), 1) := by decide +kernel
theorem dX10_best_16 : decode cX10_best 16 = .ok (.istore_n 2, 1) := by decide +kernel
theorem dX10_best_17 : decode cX10_best 17 = .ok (.iconst 0, 1) := by decide +kernel
theorem dX10_best_18 : decode cX10_best 18 = .ok (.istore_n 3, 1) := by decide +kernel
theorem dX10_best_19 : decode cX10_best 19 = .ok (.iload_n 3, 1) := by decide +kernel
theorem dX10_best_20 : decode cX10_best 20 = .ok (.aload_n 0, 1) := by decide +kernel
theorem dX10_best_21 : decode cX10_best 21 = .ok (.getfield 7, 3) := by decide +kernel
theorem dX10_best_24 : decode cX10_best 24 = .ok (.iconst 5, 1) := by decide +kernel
theorem dX10_best_25 : decode cX10_best 25 = .ok (.iaload, 1) := by decide +kernel
theorem dX10_best_26 : decode cX10_best 26 = .ok (.if_icmp .ge 72, 3) := by decide +kernel
theorem dX10_best_29 : decode cX10_best 29 = .ok (.iconst 0, 1) := by decide +kernel
theorem dX10_best_30 : decode cX10_best 30 = .ok (.istore 4, 2) := by decide +kernel
theorem dX10_best_32 : decode cX10_best 32 = .ok (.iload 4, 2) := by decide +kernel
theorem dX10_best_34 : decode cX10_best 34 = .ok (.aload_n 0, 1) := by decide +kernel
theorem dX10_best_35 : decode cX10_best 35 = .ok (.invokevirtual 218, 3) := by decide +kernel
theorem dX10_best_38 : decode cX10_best 38 = .ok (.if_icmp .ge 54, 3) := by decide +kernel
theorem dX10_best_41 : decode cX10_best 41 = .ok (.aload_n 0, 1) := by decide +kernel
theorem dX10_best_42 : decode cX10_best 42 = .ok (.iload_n 3, 1) := by decide +kernel
theorem dX10_best_43 : decode cX10_best 43 = .ok (.invokevirtual 324, 3) := by decide +kernel
theorem dX10_best_46 : decode cX10_best 46 = .ok (.ifCond .eq 46, 3) := by decide +kernel
theorem dX10_best_49 : decode cX10_best 49 = .ok (.aload_n 0, 1) := by decide +kernel
theorem dX10_best_50 : decode cX10_best 50 = .ok (.iload 4, 2) := by decide +kernel
theorem dX10_best_52 : decode cX10_best 52 = .ok (.invokevirtual 255, 3) := by decide +kernel
theorem dX10_best_55 : decode cX10_best 55 = .ok (.iconst (-1), 1) := by decide +kernel
theorem dX10_best_56 : decode cX10_best 56 = .ok (.if_icmp .ne 30, 3) := by decide +kernel
theorem dX10_best_59 : decode cX10_best 59 = .ok (.aload_n 0, 1) := by decide +kernel
theorem dX10_best_60 : decode cX10_best 60 = .ok (.iload_n 3, 1) := by decide +kernel
theorem dX10_best_61 : decode cX10_best 61 = .ok (.iload 4, 2) := by decide +kernel
theorem dX10_best_63 : decode cX10_best 63 = .ok (.invokevirtual 330, 3) := by decide +kernel
theorem dX10_best_66 : decode cX10_best 66 = .ok (.iload_n 1, 1) := by decide +kernel
theorem dX10_best_67 : decode cX10_best 67 = .ok (.if_icmp .ge 19, 3) := by decide +kernel
theorem dX10_best_70 : decode cX10_best 70 = .ok (.aload_n 0, 1) := by decide +kernel
theorem dX10_best_71 : decode cX10_best 71 = .ok (.iload_n 3, 1) := by decide +kernel
theorem dX10_best_72 : decode cX10_best 72 = .ok (.iload 4, 2) := by decide +kernel
theorem dX10_best_74 : decode cX10_best 74 = .ok (.invokevirtual 330, 3) := by decide +kernel
theorem dX10_best_77 : decode cX10_best 77 = .ok (.istore_n 1, 1) := by decide +kernel
theorem dX10_best_78 : decode cX10_best 78 = .ok (.bipush 100, 2) := by decide +kernel
theorem dX10_best_80 : decode cX10_best 80 = .ok (.iload_n 3, 1) := by decide +kernel
theorem dX10_best_81 : decode cX10_best 81 = .ok (.imul, 1) := by decide +kernel
theorem dX10_best_82 : decode cX10_best 82 = .ok (.iload 4, 2) := by decide +kernel
theorem dX10_best_84 : decode cX10_best 84 = .ok (.iadd, 1) := by decide +kernel
theorem dX10_best_85 : decode cX10_best 85 = .ok (.istore_n 2, 1) := by decide +kernel
theorem dX10_best_86 : decode cX10_best 86 = .ok (.iinc 4 1, 3) := by decide +kernel
theorem dX10_best_89 : decode cX10_best 89 = .ok (.goto (-57), 3) := by decide +kernel
theorem dX10_best_92 : decode cX10_best 92 = .ok (.iinc 3 1, 3) := by decide +kernel
theorem dX10_best_95 : decode cX10_best 95 = .ok (.goto (-76), 3) := by decide +kernel
theorem dX10_best_98 : decode cX10_best 98 = .ok (.iload_n 2, 1) := by decide +kernel
theorem dX10_best_99 : decode cX10_best 99 = .ok (.ireturn, 1) := by decide +kernel
theorem dX10_pair_0 : decode cX10_pair 0 = .ok (.aload_n 0, 1) := by decide +kernel
theorem dX10_pair_1 : decode cX10_pair 1 = .ok (.invokevirtual 307, 3) := by decide +kernel
theorem dX10_pair_4 : decode cX10_pair 4 = .ok (.ifCond .ne 6, 3) := by decide +kernel
theorem dX10_pair_7 : decode cX10_pair 7 = .ok (.bipush (-2), 2) := by decide +kernel
theorem dX10_pair_9 : decode cX10_pair 9 = .ok (.ireturn, 1) := by decide +kernel
theorem dX10_pair_10 : decode cX10_pair 10 = .ok (.aload_n 0, 1) := by decide +kernel
theorem dX10_pair_11 : decode cX10_pair 11 = .ok (.invokevirtual 313, 3) := by decide +kernel
theorem dX10_pair_14 : decode cX10_pair 14 = .ok (.istore_n 1, 1) := by decide +kernel
theorem dX10_pair_15 : decode cX10_pair 15 = .ok (.iconst (-1), 1) := by decide +kernel
theorem dX10_pair_16 : decode cX10_pair 16 = .ok (.istore_n 2, 1) := by decide +kernel
theorem dX10_pair_17 : decode cX10_pair 17 = .ok (.iconst 0, 1) := by decide +kernel
theorem dX10_pair_18 : decode cX10_pair 18 = .ok (.istore_n 3, 1) := by decide +kernel
theorem dX10_pair_19 : decode cX10_pair 19 = .ok (.iload_n 3, 1) := by decide +kernel
theorem dX10_pair_20 : decode cX10_pair 20 = .ok (.aload_n 0, 1) := by decide +kernel
theorem dX10_pair_21 : decode cX10_pair 21 = .ok (.getfield 7, 3) := by decide +kernel
theorem dX10_pair_24 : decode cX10_pair 24 = .ok (.iconst 5, 1) := by decide +kernel
theorem dX10_pair_25 : decode cX10_pair 25 = .ok (.iaload, 1) := by decide +kernel
theorem dX10_pair_26 : decode cX10_pair 26 = .ok (.if_icmp .ge 75, 3) := by decide +kernel
theorem dX10_pair_29 : decode cX10_pair 29 = .ok (.iload_n 3, 1) := by decide +kernel
theorem dX10_pair_30 : decode cX10_pair 30 = .ok (.iconst 1, 1) := by decide +kernel
theorem dX10_pair_31 : decode cX10_pair 31 = .ok (.iadd, 1) := by decide +kernel
theorem dX10_pair_32 : decode cX10_pair 32 = .ok (.istore 4, 2) := by decide +kernel
theorem dX10_pair_34 : decode cX10_pair 34 = .ok (.iload 4, 2) := by decide +kernel
theorem dX10_pair_36 : decode cX10_pair 36 = .ok (.aload_n 0, 1) := by decide +kernel
theorem dX10_pair_37 : decode cX10_pair 37 = .ok (.getfield 7, 3) := by decide +kernel
theorem dX10_pair_40 : decode cX10_pair 40 = .ok (.iconst 5, 1) := by decide +kernel
theorem dX10_pair_41 : decode cX10_pair 41 = .ok (.iaload, 1) := by decide +kernel
theorem dX10_pair_42 : decode cX10_pair 42 = .ok (.if_icmp .ge 53, 3) := by decide +kernel
theorem dX10_pair_45 : decode cX10_pair 45 = .ok (.aload_n 0, 1) := by decide +kernel
theorem dX10_pair_46 : decode cX10_pair 46 = .ok (.iload_n 3, 1) := by decide +kernel
theorem dX10_pair_47 : decode cX10_pair 47 = .ok (.invokevirtual 324, 3) := by decide +kernel
theorem dX10_pair_50 : decode cX10_pair 50 = .ok (.ifCond .eq 39, 3) := by decide +kernel
theorem dX10_pair_53 : decode cX10_pair 53 = .ok (.aload_n 0, 1) := by decide +kernel
theorem dX10_pair_54 : decode cX10_pair 54 = .ok (.iload 4, 2) := by decide +kernel
theorem dX10_pair_56 : decode cX10_pair 56 = .ok (.invokevirtual 324, 3) := by decide +kernel
theorem dX10_pair_59 : decode cX10_pair 59 = .ok (.ifCond .eq 30, 3) := by decide +kernel
theorem dX10_pair_62 : decode cX10_pair 62 = .ok (.aload_n 0, 1) := by decide +kernel
theorem dX10_pair_63 : decode cX10_pair 63 = .ok (.iload_n 3, 1) := by decide +kernel
theorem dX10_pair_64 : decode cX10_pair 64 = .ok (.iload 4, 2) := by decide +kernel
theorem dX10_pair_66 : decode cX10_pair 66 = .ok (.invokevirtual 336, 3) := by decide +kernel
theorem dX10_pair_69 : decode cX10_pair 69 = .ok (.iload_n 1, 1) := by decide +kernel
theorem dX10_pair_70 : decode cX10_pair 70 = .ok (.if_icmp .ge 19, 3) := by decide +kernel
theorem dX10_pair_73 : decode cX10_pair 73 = .ok (.aload_n 0, 1) := by decide +kernel
theorem dX10_pair_74 : decode cX10_pair 74 = .ok (.iload_n 3, 1) := by decide +kernel
theorem dX10_pair_75 : decode cX10_pair 75 = .ok (.iload 4, 2) := by decide +kernel
theorem dX10_pair_77 : decode cX10_pair 77 = .ok (.invokevirtual 336, 3) := by decide +kernel
theorem dX10_pair_80 : decode cX10_pair 80 = .ok (.istore_n 1, 1) := by decide +kernel
theorem dX10_pair_81 : decode cX10_pair 81 = .ok (.bipush 100, 2) := by decide +kernel
theorem dX10_pair_83 : decode cX10_pair 83 = .ok (.iload_n 3, 1) := by decide +kernel
theorem dX10_pair_84 : decode cX10_pair 84 = .ok (.imul, 1) := by decide +kernel
theorem dX10_pair_85 : decode cX10_pair 85 = .ok (.iload 4, 2) := by decide +kernel
theorem dX10_pair_87 : decode cX10_pair 87 = .ok (.iadd, 1) := by decide +kernel
theorem dX10_pair_88 : decode cX10_pair 88 = .ok (.istore_n 2, 1) := by decide +kernel
theorem dX10_pair_89 : decode cX10_pair 89 = .ok (.iinc 4 1, 3) := by decide +kernel
theorem dX10_pair_92 : decode cX10_pair 92 = .ok (.goto (-58), 3) := by decide +kernel
theorem dX10_pair_95 : decode cX10_pair 95 = .ok (.iinc 3 1, 3) := by decide +kernel
theorem dX10_pair_98 : decode cX10_pair 98 = .ok (.goto (-79), 3) := by decide +kernel
theorem dX10_pair_101 : decode cX10_pair 101 = .ok (.iload_n 2, 1) := by decide +kernel
theorem dX10_pair_102 : decode cX10_pair 102 = .ok (.ireturn, 1) := by decide +kernel
theorem dX10_idle_0 : decode cX10_idle 0 = .ok (.aload_n 0, 1) := by decide +kernel
theorem dX10_idle_1 : decode cX10_idle 1 = .ok (.invokevirtual 307, 3) := by decide +kernel
theorem dX10_idle_4 : decode cX10_idle 4 = .ok (.ifCond .ne 6, 3) := by decide +kernel
theorem dX10_idle_7 : decode cX10_idle 7 = .ok (.bipush (-2), 2) := by decide +kernel
theorem dX10_idle_9 : decode cX10_idle 9 = .ok (.ireturn, 1) := by decide +kernel
theorem dX10_idle_10 : decode cX10_idle 10 = .ok (.aload_n 0, 1) := by decide +kernel
theorem dX10_idle_11 : decode cX10_idle 11 = .ok (.invokevirtual 313, 3) := by decide +kernel
theorem dX10_idle_14 : decode cX10_idle 14 = .ok (.istore_n 1, 1) := by decide +kernel
theorem dX10_idle_15 : decode cX10_idle 15 = .ok (.iconst 0, 1) := by decide +kernel
theorem dX10_idle_16 : decode cX10_idle 16 = .ok (.istore_n 2, 1) := by decide +kernel
theorem dX10_idle_17 : decode cX10_idle 17 = .ok (.iconst 0, 1) := by decide +kernel
theorem dX10_idle_18 : decode cX10_idle 18 = .ok (.istore_n 3, 1) := by decide +kernel
theorem dX10_idle_19 : decode cX10_idle 19 = .ok (.iload_n 3, 1) := by decide +kernel
theorem dX10_idle_20 : decode cX10_idle 20 = .ok (.aload_n 0, 1) := by decide +kernel
theorem dX10_idle_21 : decode cX10_idle 21 = .ok (.getfield 7, 3) := by decide +kernel
theorem dX10_idle_24 : decode cX10_idle 24 = .ok (.iconst 5, 1) := by decide +kernel
theorem dX10_idle_25 : decode cX10_idle 25 = .ok (.iaload, 1) := by decide +kernel
theorem dX10_idle_26 : decode cX10_idle 26 = .ok (.if_icmp .ge 64, 3) := by decide +kernel
theorem dX10_idle_29 : decode cX10_idle 29 = .ok (.iconst 0, 1) := by decide +kernel
theorem dX10_idle_30 : decode cX10_idle 30 = .ok (.istore 4, 2) := by decide +kernel
theorem dX10_idle_32 : decode cX10_idle 32 = .ok (.iload 4, 2) := by decide +kernel
theorem dX10_idle_34 : decode cX10_idle 34 = .ok (.aload_n 0, 1) := by decide +kernel
theorem dX10_idle_35 : decode cX10_idle 35 = .ok (.invokevirtual 218, 3) := by decide +kernel
theorem dX10_idle_38 : decode cX10_idle 38 = .ok (.if_icmp .ge 46, 3) := by decide +kernel
theorem dX10_idle_41 : decode cX10_idle 41 = .ok (.aload_n 0, 1) := by decide +kernel
theorem dX10_idle_42 : decode cX10_idle 42 = .ok (.iload_n 3, 1) := by decide +kernel
theorem dX10_idle_43 : decode cX10_idle 43 = .ok (.invokevirtual 324, 3) := by decide +kernel
theorem dX10_idle_46 : decode cX10_idle 46 = .ok (.ifCond .eq 38, 3) := by decide +kernel
theorem dX10_idle_49 : decode cX10_idle 49 = .ok (.iload_n 2, 1) := by decide +kernel
theorem dX10_idle_50 : decode cX10_idle 50 = .ok (.aload_n 0, 1) := by decide +kernel
theorem dX10_idle_51 : decode cX10_idle 51 = .ok (.iload 4, 2) := by decide +kernel
theorem dX10_idle_53 : decode cX10_idle 53 = .ok (.invokevirtual 255, 3) := by decide +kernel
theorem dX10_idle_56 : decode cX10_idle 56 = .ok (.iconst (-1), 1) := by decide +kernel
theorem dX10_idle_57 : decode cX10_idle 57 = .ok (.if_icmp .ne 18, 3) := by decide +kernel
theorem dX10_idle_60 : decode cX10_idle 60 = .ok (.aload_n 0, 1) := by decide +kernel
theorem dX10_idle_61 : decode cX10_idle 61 = .ok (.iload_n 3, 1) := by decide +kernel
theorem dX10_idle_62 : decode cX10_idle 62 = .ok (.iload 4, 2) := by decide +kernel
theorem dX10_idle_64 : decode cX10_idle 64 = .ok (.invokevirtual 330, 3) := by decide +kernel
theorem dX10_idle_67 : decode cX10_idle 67 = .ok (.iload_n 1, 1) := by decide +kernel
theorem dX10_idle_68 : decode cX10_idle 68 = .ok (.if_icmp .ne 7, 3) := by decide +kernel
theorem dX10_idle_71 : decode cX10_idle 71 = .ok (.iconst 1, 1) := by decide +kernel
theorem dX10_idle_72 : decode cX10_idle 72 = .ok (.goto 4, 3) := by decide +kernel
theorem dX10_idle_75 : decode cX10_idle 75 = .ok (.iconst 0, 1) := by decide +kernel
theorem dX10_idle_76 : decode cX10_idle 76 = .ok (.iadd, 1) := by decide +kernel
theorem dX10_idle_77 : decode cX10_idle 77 = .ok (.istore_n 2, 1) := by decide +kernel
theorem dX10_idle_78 : decode cX10_idle 78 = .ok (.iinc 4 1, 3) := by decide +kernel
theorem dX10_idle_81 : decode cX10_idle 81 = .ok (.goto (-49), 3) := by decide +kernel
theorem dX10_idle_84 : decode cX10_idle 84 = .ok (.iinc 3 1, 3) := by decide +kernel
theorem dX10_idle_87 : decode cX10_idle 87 = .ok (.goto (-68), 3) := by decide +kernel
theorem dX10_idle_90 : decode cX10_idle 90 = .ok (.iload_n 2, 1) := by decide +kernel
theorem dX10_idle_91 : decode cX10_idle 91 = .ok (.ireturn, 1) := by decide +kernel
theorem dX10_isTaken_0 : decode cX10_isTaken 0 = .ok (.iconst 0, 1) := by decide +kernel
theorem dX10_isTaken_1 : decode cX10_isTaken 1 = .ok (.istore_n 2, 1) := by decide +kernel
theorem dX10_isTaken_2 : decode cX10_isTaken 2 = .ok (.iload_n 2, 1) := by decide +kernel
theorem dX10_isTaken_3 : decode cX10_isTaken 3 = .ok (.aload_n 0, 1) := by decide +kernel
theorem dX10_isTaken_4 : decode cX10_isTaken 4 = .ok (.getfield 7, 3) := by decide +kernel
theorem dX10_isTaken_7 : decode cX10_isTaken 7 = .ok (.iconst 5, 1) := by decide +kernel
theorem dX10_isTaken_8 : decode cX10_isTaken 8 = .ok (.iaload, 1) := by decide +kernel
theorem dX10_isTaken_9 : decode cX10_isTaken 9 = .ok (.if_icmp .ge 21, 3) := by decide +kernel
theorem dX10_isTaken_12 : decode cX10_isTaken 12 = .ok (.aload_n 0, 1) := by decide +kernel
theorem dX10_isTaken_13 : decode cX10_isTaken 13 = .ok (.getfield 75, 3) := by decide +kernel
theorem dX10_isTaken_16 : decode cX10_isTaken 16 = .ok (.iload_n 2, 1) := by decide +kernel
theorem dX10_isTaken_17 : decode cX10_isTaken 17 = .ok (.iaload, 1) := by decide +kernel
theorem dX10_isTaken_18 : decode cX10_isTaken 18 = .ok (.iload_n 1, 1) := by decide +kernel
theorem dX10_isTaken_19 : decode cX10_isTaken 19 = .ok (.if_icmp .ne 5, 3) := by decide +kernel
theorem dX10_isTaken_22 : decode cX10_isTaken 22 = .ok (.iconst 1, 1) := by decide +kernel
theorem dX10_isTaken_23 : decode cX10_isTaken 23 = .ok (.ireturn, 1) := by decide +kernel
theorem dX10_isTaken_24 : decode cX10_isTaken 24 = .ok (.iinc 2 1, 3) := by decide +kernel
theorem dX10_isTaken_27 : decode cX10_isTaken 27 = .ok (.goto (-25), 3) := by decide +kernel
theorem dX10_isTaken_30 : decode cX10_isTaken 30 = .ok (.iconst 0, 1) := by decide +kernel
theorem dX10_isTaken_31 : decode cX10_isTaken 31 = .ok (.ireturn, 1) := by decide +kernel
theorem dX10_laysFixed_0 : decode cX10_laysFixed 0 = .ok (.iconst 0, 1) := by decide +kernel
theorem dX10_laysFixed_1 : decode cX10_laysFixed 1 = .ok (.istore_n 1, 1) := by decide +kernel
theorem dX10_laysFixed_2 : decode cX10_laysFixed 2 = .ok (.iload_n 1, 1) := by decide +kernel
theorem dX10_laysFixed_3 : decode cX10_laysFixed 3 = .ok (.aload_n 0, 1) := by decide +kernel
theorem dX10_laysFixed_4 : decode cX10_laysFixed 4 = .ok (.getfield 7, 3) := by decide +kernel
theorem dX10_laysFixed_7 : decode cX10_laysFixed 7 = .ok (.iconst 5, 1) := by decide +kernel
theorem dX10_laysFixed_8 : decode cX10_laysFixed 8 = .ok (.iaload, 1) := by decide +kernel
theorem dX10_laysFixed_9 : decode cX10_laysFixed 9 = .ok (.if_icmp .ge 25, 3) := by decide +kernel
theorem dX10_laysFixed_12 : decode cX10_laysFixed 12 = .ok (.aload_n 0, 1) := by decide +kernel
theorem dX10_laysFixed_13 : decode cX10_laysFixed 13 = .ok (.getfield 75, 3) := by decide +kernel
theorem dX10_laysFixed_16 : decode cX10_laysFixed 16 = .ok (.iload_n 1, 1) := by decide +kernel
theorem dX10_laysFixed_17 : decode cX10_laysFixed 17 = .ok (.aload_n 0, 1) := by decide +kernel
theorem dX10_laysFixed_18 : decode cX10_laysFixed 18 = .ok (.getfield 7, 3) := by decide +kernel
theorem dX10_laysFixed_21 : decode cX10_laysFixed 21 = .ok (.sipush 129, 3) := by decide +kernel
theorem dX10_laysFixed_24 : decode cX10_laysFixed 24 = .ok (.iload_n 1, 1) := by decide +kernel
theorem dX10_laysFixed_25 : decode cX10_laysFixed 25 = .ok (.iadd, 1) := by decide +kernel
theorem dX10_laysFixed_26 : decode cX10_laysFixed 26 = .ok (.iaload, 1) := by decide +kernel
theorem dX10_laysFixed_27 : decode cX10_laysFixed 27 = .ok (.iastore, 1) := by decide +kernel
theorem dX10_laysFixed_28 : decode cX10_laysFixed 28 = .ok (.iinc 1 1, 3) := by decide +kernel
theorem dX10_laysFixed_31 : decode cX10_laysFixed 31 = .ok (.goto (-29), 3) := by decide +kernel
theorem dX10_laysFixed_34 : decode cX10_laysFixed 34 = .ok (.return_, 1) := by decide +kernel
theorem dX10_laysRest_0 : decode cX10_laysRest 0 = .ok (.iconst 0, 1) := by decide +kernel
theorem dX10_laysRest_1 : decode cX10_laysRest 1 = .ok (.istore_n 1, 1) := by decide +kernel
theorem dX10_laysRest_2 : decode cX10_laysRest 2 = .ok (.iload_n 1, 1) := by decide +kernel
theorem dX10_laysRest_3 : decode cX10_laysRest 3 = .ok (.aload_n 0, 1) := by decide +kernel
theorem dX10_laysRest_4 : decode cX10_laysRest 4 = .ok (.getfield 7, 3) := by decide +kernel
theorem dX10_laysRest_7 : decode cX10_laysRest 7 = .ok (.iconst 5, 1) := by decide +kernel
theorem dX10_laysRest_8 : decode cX10_laysRest 8 = .ok (.iaload, 1) := by decide +kernel
theorem dX10_laysRest_9 : decode cX10_laysRest 9 = .ok (.if_icmp .ge 46, 3) := by decide +kernel
theorem dX10_laysRest_12 : decode cX10_laysRest 12 = .ok (.iconst 0, 1) := by decide +kernel
theorem dX10_laysRest_13 : decode cX10_laysRest 13 = .ok (.istore_n 2, 1) := by decide +kernel
theorem dX10_laysRest_14 : decode cX10_laysRest 14 = .ok (.aload_n 0, 1) := by decide +kernel
theorem dX10_laysRest_15 : decode cX10_laysRest 15 = .ok (.getfield 75, 3) := by decide +kernel
theorem dX10_laysRest_18 : decode cX10_laysRest 18 = .ok (.iload_n 1, 1) := by decide +kernel
theorem dX10_laysRest_19 : decode cX10_laysRest 19 = .ok (.iaload, 1) := by decide +kernel
theorem dX10_laysRest_20 : decode cX10_laysRest 20 = .ok (.iconst (-1), 1) := by decide +kernel
theorem dX10_laysRest_21 : decode cX10_laysRest 21 = .ok (.if_icmp .ne 28, 3) := by decide +kernel
theorem dX10_laysRest_24 : decode cX10_laysRest 24 = .ok (.aload_n 0, 1) := by decide +kernel
theorem dX10_laysRest_25 : decode cX10_laysRest 25 = .ok (.getfield 75, 3) := by decide +kernel
theorem dX10_laysRest_28 : decode cX10_laysRest 28 = .ok (.iload_n 1, 1) := by decide +kernel
theorem dX10_laysRest_29 : decode cX10_laysRest 29 = .ok (.aload_n 0, 1) := by decide +kernel
theorem dX10_laysRest_30 : decode cX10_laysRest 30 = .ok (.iload_n 2, 1) := by decide +kernel
theorem dX10_laysRest_31 : decode cX10_laysRest 31 = .ok (.invokevirtual 339, 3) := by decide +kernel
theorem dX10_laysRest_34 : decode cX10_laysRest 34 = .ok (.ifCond .eq 7, 3) := by decide +kernel
theorem dX10_laysRest_37 : decode cX10_laysRest 37 = .ok (.iconst (-1), 1) := by decide +kernel
theorem dX10_laysRest_38 : decode cX10_laysRest 38 = .ok (.goto 4, 3) := by decide +kernel
theorem dX10_laysRest_41 : decode cX10_laysRest 41 = .ok (.iload_n 2, 1) := by decide +kernel
theorem dX10_laysRest_42 : decode cX10_laysRest 42 = .ok (.iastore, 1) := by decide +kernel
theorem dX10_laysRest_43 : decode cX10_laysRest 43 = .ok (.iinc 2 1, 3) := by decide +kernel
theorem dX10_laysRest_46 : decode cX10_laysRest 46 = .ok (.goto (-32), 3) := by decide +kernel
theorem dX10_laysRest_49 : decode cX10_laysRest 49 = .ok (.iinc 1 1, 3) := by decide +kernel
theorem dX10_laysRest_52 : decode cX10_laysRest 52 = .ok (.goto (-50), 3) := by decide +kernel
theorem dX10_laysRest_55 : decode cX10_laysRest 55 = .ok (.return_, 1) := by decide +kernel
theorem dX10_laysSoon_0 : decode cX10_laysSoon 0 = .ok (.aload_n 0, 1) := by decide +kernel
theorem dX10_laysSoon_1 : decode cX10_laysSoon 1 = .ok (.invokevirtual 298, 3) := by decide +kernel
theorem dX10_laysSoon_4 : decode cX10_laysSoon 4 = .ok (.aload_n 0, 1) := by decide +kernel
theorem dX10_laysSoon_5 : decode cX10_laysSoon 5 = .ok (.invokevirtual 301, 3) := by decide +kernel
theorem dX10_laysSoon_8 : decode cX10_laysSoon 8 = .ok (.iconst 0, 1) := by decide +kernel
theorem dX10_laysSoon_9 : decode cX10_laysSoon 9 = .ok (.istore_n 1, 1) := by decide +kernel
theorem dX10_laysSoon_10 : decode cX10_laysSoon 10 = .ok (.iconst 0, 1) := by decide +kernel
theorem dX10_laysSoon_11 : decode cX10_laysSoon 11 = .ok (.istore_n 2, 1) := by decide +kernel
theorem dX10_laysSoon_12 : decode cX10_laysSoon 12 = .ok (.iload_n 2, 1) := by decide +kernel
theorem dX10_laysSoon_13 : decode cX10_laysSoon 13 = .ok (.aload_n 0, 1) := by decide +kernel
theorem dX10_laysSoon_14 : decode cX10_laysSoon 14 = .ok (.getfield 261, 3) := by decide +kernel
theorem dX10_laysSoon_17 : decode cX10_laysSoon 17 = .ok (.if_icmp .ge 138, 3) := by decide +kernel
theorem dX10_laysSoon_20 : decode cX10_laysSoon 20 = .ok (.iload_n 1, 1) := by decide +kernel
theorem dX10_laysSoon_21 : decode cX10_laysSoon 21 = .ok (.aload_n 0, 1) := by decide +kernel
theorem dX10_laysSoon_22 : decode cX10_laysSoon 22 = .ok (.aload_n 0, 1) := by decide +kernel
theorem dX10_laysSoon_23 : decode cX10_laysSoon 23 = .ok (.getfield 48, 3) := by decide +kernel
theorem dX10_laysSoon_26 : decode cX10_laysSoon 26 = .ok (.iload_n 2, 1) := by decide +kernel
theorem dX10_laysSoon_27 : decode cX10_laysSoon 27 = .ok (.iaload, 1) := by decide +kernel
theorem dX10_laysSoon_28 : decode cX10_laysSoon 28 = .ok (.invokevirtual 292, 3) := by decide +kernel
theorem dX10_laysSoon_31 : decode cX10_laysSoon 31 = .ok (.iadd, 1) := by decide +kernel
theorem dX10_laysSoon_32 : decode cX10_laysSoon 32 = .ok (.istore_n 3, 1) := by decide +kernel
theorem dX10_laysSoon_33 : decode cX10_laysSoon 33 = .ok (.aload_n 0, 1) := by decide +kernel
theorem dX10_laysSoon_34 : decode cX10_laysSoon 34 = .ok (.getfield 45, 3) := by decide +kernel
theorem dX10_laysSoon_37 : decode cX10_laysSoon 37 = .ok (.iload_n 2, 1) := by decide +kernel
theorem dX10_laysSoon_38 : decode cX10_laysSoon 38 = .ok (.iaload, 1) := by decide +kernel
theorem dX10_laysSoon_39 : decode cX10_laysSoon 39 = .ok (.istore 4, 2) := by decide +kernel
theorem dX10_laysSoon_41 : decode cX10_laysSoon 41 = .ok (.aload_n 0, 1) := by decide +kernel
theorem dX10_laysSoon_42 : decode cX10_laysSoon 42 = .ok (.getfield 75, 3) := by decide +kernel
theorem dX10_laysSoon_45 : decode cX10_laysSoon 45 = .ok (.iload 4, 2) := by decide +kernel
theorem dX10_laysSoon_47 : decode cX10_laysSoon 47 = .ok (.iaload, 1) := by decide +kernel
theorem dX10_laysSoon_48 : decode cX10_laysSoon 48 = .ok (.istore 5, 2) := by decide +kernel
theorem dX10_laysSoon_50 : decode cX10_laysSoon 50 = .ok (.iconst 0, 1) := by decide +kernel
theorem dX10_laysSoon_51 : decode cX10_laysSoon 51 = .ok (.istore 6, 2) := by decide +kernel
theorem dX10_laysSoon_53 : decode cX10_laysSoon 53 = .ok (.iload 6, 2) := by decide +kernel
theorem dX10_laysSoon_55 : decode cX10_laysSoon 55 = .ok (.aload_n 0, 1) := by decide +kernel
theorem dX10_laysSoon_56 : decode cX10_laysSoon 56 = .ok (.invokevirtual 218, 3) := by decide +kernel
theorem dX10_laysSoon_59 : decode cX10_laysSoon 59 = .ok (.if_icmp .ge 73, 3) := by decide +kernel
theorem dX10_laysSoon_62 : decode cX10_laysSoon 62 = .ok (.aload_n 0, 1) := by decide +kernel
theorem dX10_laysSoon_63 : decode cX10_laysSoon 63 = .ok (.getfield 75, 3) := by decide +kernel
theorem dX10_laysSoon_66 : decode cX10_laysSoon 66 = .ok (.iload 4, 2) := by decide +kernel
theorem dX10_laysSoon_68 : decode cX10_laysSoon 68 = .ok (.iaload, 1) := by decide +kernel
theorem dX10_laysSoon_69 : decode cX10_laysSoon 69 = .ok (.iconst (-1), 1) := by decide +kernel
theorem dX10_laysSoon_70 : decode cX10_laysSoon 70 = .ok (.if_icmp .ne 62, 3) := by decide +kernel
theorem dX10_laysSoon_73 : decode cX10_laysSoon 73 = .ok (.aload_n 0, 1) := by decide +kernel
theorem dX10_laysSoon_74 : decode cX10_laysSoon 74 = .ok (.iload 6, 2) := by decide +kernel
theorem dX10_laysSoon_76 : decode cX10_laysSoon 76 = .ok (.invokevirtual 339, 3) := by decide +kernel
theorem dX10_laysSoon_79 : decode cX10_laysSoon 79 = .ok (.ifCond .ne 30, 3) := by decide +kernel
theorem dX10_laysSoon_82 : decode cX10_laysSoon 82 = .ok (.iload 5, 2) := by decide +kernel
theorem dX10_laysSoon_84 : decode cX10_laysSoon 84 = .ok (.iconst (-1), 1) := by decide +kernel
theorem dX10_laysSoon_85 : decode cX10_laysSoon 85 = .ok (.if_icmp .eq 20, 3) := by decide +kernel
theorem dX10_laysSoon_88 : decode cX10_laysSoon 88 = .ok (.aload_n 0, 1) := by decide +kernel
theorem dX10_laysSoon_89 : decode cX10_laysSoon 89 = .ok (.iload 6, 2) := by decide +kernel
theorem dX10_laysSoon_91 : decode cX10_laysSoon 91 = .ok (.iload_n 3, 1) := by decide +kernel
theorem dX10_laysSoon_92 : decode cX10_laysSoon 92 = .ok (.invokevirtual 295, 3) := by decide +kernel
theorem dX10_laysSoon_95 : decode cX10_laysSoon 95 = .ok (.aload_n 0, 1) := by decide +kernel
theorem dX10_laysSoon_96 : decode cX10_laysSoon 96 = .ok (.iload 5, 2) := by decide +kernel
theorem dX10_laysSoon_98 : decode cX10_laysSoon 98 = .ok (.iload_n 3, 1) := by decide +kernel
theorem dX10_laysSoon_99 : decode cX10_laysSoon 99 = .ok (.invokevirtual 295, 3) := by decide +kernel
theorem dX10_laysSoon_102 : decode cX10_laysSoon 102 = .ok (.if_icmp .ge 7, 3) := by decide +kernel
theorem dX10_laysSoon_105 : decode cX10_laysSoon 105 = .ok (.iconst 1, 1) := by decide +kernel
theorem dX10_laysSoon_106 : decode cX10_laysSoon 106 = .ok (.goto 4, 3) := by decide +kernel
theorem dX10_laysSoon_109 : decode cX10_laysSoon 109 = .ok (.iconst 0, 1) := by decide +kernel
theorem dX10_laysSoon_110 : decode cX10_laysSoon 110 = .ok (.istore 7, 2) := by decide +kernel
theorem dX10_laysSoon_112 : decode cX10_laysSoon 112 = .ok (.iload 7, 2) := by decide +kernel
theorem dX10_laysSoon_114 : decode cX10_laysSoon 114 = .ok (.ifCond .eq 8, 3) := by decide +kernel
theorem dX10_laysSoon_117 : decode cX10_laysSoon 117 = .ok (.iload 6, 2) := by decide +kernel
theorem dX10_laysSoon_119 : decode cX10_laysSoon 119 = .ok (.goto 5, 3) := by decide +kernel
theorem dX10_laysSoon_122 : decode cX10_laysSoon 122 = .ok (.iload 5, 2) := by decide +kernel
theorem dX10_laysSoon_124 : decode cX10_laysSoon 124 = .ok (.istore 5, 2) := by decide +kernel
theorem dX10_laysSoon_126 : decode cX10_laysSoon 126 = .ok (.iinc 6 1, 3) := by decide +kernel
theorem dX10_laysSoon_129 : decode cX10_laysSoon 129 = .ok (.goto (-76), 3) := by decide +kernel
theorem dX10_laysSoon_132 : decode cX10_laysSoon 132 = .ok (.aload_n 0, 1) := by decide +kernel
theorem dX10_laysSoon_133 : decode cX10_laysSoon 133 = .ok (.getfield 75, 3) := by decide +kernel
theorem dX10_laysSoon_136 : decode cX10_laysSoon 136 = .ok (.iload 4, 2) := by decide +kernel
theorem dX10_laysSoon_138 : decode cX10_laysSoon 138 = .ok (.iload 5, 2) := by decide +kernel
theorem dX10_laysSoon_140 : decode cX10_laysSoon 140 = .ok (.iastore, 1) := by decide +kernel
theorem dX10_laysSoon_141 : decode cX10_laysSoon 141 = .ok (.aload_n 0, 1) := by decide +kernel
theorem dX10_laysSoon_142 : decode cX10_laysSoon 142 = .ok (.iload 5, 2) := by decide +kernel
theorem dX10_laysSoon_144 : decode cX10_laysSoon 144 = .ok (.iload_n 3, 1) := by decide +kernel
theorem dX10_laysSoon_145 : decode cX10_laysSoon 145 = .ok (.invokevirtual 295, 3) := by decide +kernel
theorem dX10_laysSoon_148 : decode cX10_laysSoon 148 = .ok (.istore_n 1, 1) := by decide +kernel
theorem dX10_laysSoon_149 : decode cX10_laysSoon 149 = .ok (.iinc 2 1, 3) := by decide +kernel
theorem dX10_laysSoon_152 : decode cX10_laysSoon 152 = .ok (.goto (-140), 3) := by decide +kernel
theorem dX10_laysSoon_155 : decode cX10_laysSoon 155 = .ok (.return_, 1) := by decide +kernel
theorem dX10_laysClasses_0 : decode cX10_laysClasses 0 = .ok (.aload_n 0, 1) := by decide +kernel
theorem dX10_laysClasses_1 : decode cX10_laysClasses 1 = .ok (.iconst 0, 1) := by decide +kernel
theorem dX10_laysClasses_2 : decode cX10_laysClasses 2 = .ok (.putfield 342, 3) := by decide +kernel
theorem dX10_laysClasses_5 : decode cX10_laysClasses 5 = .ok (.aload_n 0, 1) := by decide +kernel
theorem dX10_laysClasses_6 : decode cX10_laysClasses 6 = .ok (.invokevirtual 345, 3) := by decide +kernel
theorem dX10_laysClasses_9 : decode cX10_laysClasses 9 = .ok (.iconst 0, 1) := by decide +kernel
theorem dX10_laysClasses_10 : decode cX10_laysClasses 10 = .ok (.istore_n 1, 1) := by decide +kernel
theorem dX10_laysClasses_11 : decode cX10_laysClasses 11 = .ok (.iload_n 1, 1) := by decide +kernel
theorem dX10_laysClasses_12 : decode cX10_laysClasses 12 = .ok (.bipush 24, 2) := by decide +kernel
theorem dX10_laysClasses_14 : decode cX10_laysClasses 14 = .ok (.if_icmp .ge 16, 3) := by decide +kernel
theorem dX10_laysClasses_17 : decode cX10_laysClasses 17 = .ok (.aload_n 0, 1) := by decide +kernel
theorem dX10_laysClasses_18 : decode cX10_laysClasses 18 = .ok (.getfield 84, 3) := by decide +kernel
theorem dX10_laysClasses_21 : decode cX10_laysClasses 21 = .ok (.iload_n 1, 1) := by decide +kernel
theorem dX10_laysClasses_22 : decode cX10_laysClasses 22 = .ok (.iconst 0, 1) := by decide +kernel
theorem dX10_laysClasses_23 : decode cX10_laysClasses 23 = .ok (.iastore, 1) := by decide +kernel
theorem dX10_laysClasses_24 : decode cX10_laysClasses 24 = .ok (.iinc 1 1, 3) := by decide +kernel
theorem dX10_laysClasses_27 : decode cX10_laysClasses 27 = .ok (.goto (-16), 3) := by decide +kernel
theorem dX10_laysClasses_30 : decode cX10_laysClasses 30 = .ok (.iconst 0, 1) := by decide +kernel
theorem dX10_laysClasses_31 : decode cX10_laysClasses 31 = .ok (.istore_n 1, 1) := by decide +kernel
theorem dX10_laysClasses_32 : decode cX10_laysClasses 32 = .ok (.iload_n 1, 1) := by decide +kernel
theorem dX10_laysClasses_33 : decode cX10_laysClasses 33 = .ok (.aload_n 0, 1) := by decide +kernel
theorem dX10_laysClasses_34 : decode cX10_laysClasses 34 = .ok (.invokevirtual 218, 3) := by decide +kernel
theorem dX10_laysClasses_37 : decode cX10_laysClasses 37 = .ok (.if_icmp .ge 116, 3) := by decide +kernel
theorem dX10_laysClasses_40 : decode cX10_laysClasses 40 = .ok (.iload_n 1, 1) := by decide +kernel
theorem dX10_laysClasses_41 : decode cX10_laysClasses 41 = .ok (.aload_n 0, 1) := by decide +kernel
theorem dX10_laysClasses_42 : decode cX10_laysClasses 42 = .ok (.getfield 7, 3) := by decide +kernel
theorem dX10_laysClasses_45 : decode cX10_laysClasses 45 = .ok (.iconst 1, 1) := by decide +kernel
theorem dX10_laysClasses_46 : decode cX10_laysClasses 46 = .ok (.iaload, 1) := by decide +kernel
theorem dX10_laysClasses_47 : decode cX10_laysClasses 47 = .ok (.idiv, 1) := by decide +kernel
theorem dX10_laysClasses_48 : decode cX10_laysClasses 48 = .ok (.aload_n 0, 1) := by decide +kernel
theorem dX10_laysClasses_49 : decode cX10_laysClasses 49 = .ok (.getfield 7, 3) := by decide +kernel
theorem dX10_laysClasses_52 : decode cX10_laysClasses 52 = .ok (.iconst 0, 1) := by decide +kernel
theorem dX10_laysClasses_53 : decode cX10_laysClasses 53 = .ok (.iaload, 1) := by decide +kernel
theorem dX10_laysClasses_54 : decode cX10_laysClasses 54 = .ok (.iconst 1, 1) := by decide +kernel
theorem dX10_laysClasses_55 : decode cX10_laysClasses 55 = .ok (.isub, 1) := by decide +kernel
theorem dX10_laysClasses_56 : decode cX10_laysClasses 56 = .ok (.if_icmp .ne 16, 3) := by decide +kernel
theorem dX10_laysClasses_59 : decode cX10_laysClasses 59 = .ok (.aload_n 0, 1) := by decide +kernel
theorem dX10_laysClasses_60 : decode cX10_laysClasses 60 = .ok (.getfield 7, 3) := by decide +kernel
theorem dX10_laysClasses_63 : decode cX10_laysClasses 63 = .ok (.iconst 3, 1) := by decide +kernel
theorem dX10_laysClasses_64 : decode cX10_laysClasses 64 = .ok (.iaload, 1) := by decide +kernel
theorem dX10_laysClasses_65 : decode cX10_laysClasses 65 = .ok (.ifCond .le 7, 3) := by decide +kernel
theorem dX10_laysClasses_68 : decode cX10_laysClasses 68 = .ok (.iconst 1, 1) := by decide +kernel
theorem dX10_laysClasses_69 : decode cX10_laysClasses 69 = .ok (.goto 4, 3) := by decide +kernel
theorem dX10_laysClasses_72 : decode cX10_laysClasses 72 = .ok (.iconst 0, 1) := by decide +kernel
theorem dX10_laysClasses_73 : decode cX10_laysClasses 73 = .ok (.istore_n 2, 1) := by decide +kernel
theorem dX10_laysClasses_74 : decode cX10_laysClasses 74 = .ok (.iload_n 2, 1) := by decide +kernel
theorem dX10_laysClasses_75 : decode cX10_laysClasses 75 = .ok (.ifCond .eq 24, 3) := by decide +kernel
theorem dX10_laysClasses_78 : decode cX10_laysClasses 78 = .ok (.bipush 12, 2) := by decide +kernel
theorem dX10_laysClasses_80 : decode cX10_laysClasses 80 = .ok (.iload_n 1, 1) := by decide +kernel
theorem dX10_laysClasses_81 : decode cX10_laysClasses 81 = .ok (.aload_n 0, 1) := by decide +kernel
theorem dX10_laysClasses_82 : decode cX10_laysClasses 82 = .ok (.getfield 7, 3) := by decide +kernel
theorem dX10_laysClasses_85 : decode cX10_laysClasses 85 = .ok (.iconst 1, 1) := by decide +kernel
theorem dX10_laysClasses_86 : decode cX10_laysClasses 86 = .ok (.iaload, 1) := by decide +kernel
theorem dX10_laysClasses_87 : decode cX10_laysClasses 87 = .ok (.irem, 1) := by decide +kernel
theorem dX10_laysClasses_88 : decode cX10_laysClasses 88 = .ok (.aload_n 0, 1) := by decide +kernel
theorem dX10_laysClasses_89 : decode cX10_laysClasses 89 = .ok (.getfield 7, 3) := by decide +kernel
theorem dX10_laysClasses_92 : decode cX10_laysClasses 92 = .ok (.iconst 3, 1) := by decide +kernel
theorem dX10_laysClasses_93 : decode cX10_laysClasses 93 = .ok (.iaload, 1) := by decide +kernel
theorem dX10_laysClasses_94 : decode cX10_laysClasses 94 = .ok (.irem, 1) := by decide +kernel
theorem dX10_laysClasses_95 : decode cX10_laysClasses 95 = .ok (.iadd, 1) := by decide +kernel
theorem dX10_laysClasses_96 : decode cX10_laysClasses 96 = .ok (.goto 11, 3) := by decide +kernel
theorem dX10_laysClasses_99 : decode cX10_laysClasses 99 = .ok (.iload_n 1, 1) := by decide +kernel
theorem dX10_laysClasses_100 : decode cX10_laysClasses 100 = .ok (.aload_n 0, 1) := by decide +kernel
theorem dX10_laysClasses_101 : decode cX10_laysClasses 101 = .ok (.getfield 7, 3) := by decide +kernel
theorem dX10_laysClasses_104 : decode cX10_laysClasses 104 = .ok (.iconst 1, 1) := by decide +kernel
theorem dX10_laysClasses_105 : decode cX10_laysClasses 105 = .ok (.iaload, 1) := by decide +kernel
theorem dX10_laysClasses_106 : decode cX10_laysClasses 106 = .ok (.irem, 1) := by decide +kernel
theorem dX10_laysClasses_107 : decode cX10_laysClasses 107 = .ok (.istore_n 3, 1) := by decide +kernel
theorem dX10_laysClasses_108 : decode cX10_laysClasses 108 = .ok (.aload_n 0, 1) := by decide +kernel
theorem dX10_laysClasses_109 : decode cX10_laysClasses 109 = .ok (.getfield 81, 3) := by decide +kernel
theorem dX10_laysClasses_112 : decode cX10_laysClasses 112 = .ok (.iload_n 1, 1) := by decide +kernel
theorem dX10_laysClasses_113 : decode cX10_laysClasses 113 = .ok (.aload_n 0, 1) := by decide +kernel
theorem dX10_laysClasses_114 : decode cX10_laysClasses 114 = .ok (.iload_n 1, 1) := by decide +kernel
theorem dX10_laysClasses_115 : decode cX10_laysClasses 115 = .ok (.invokevirtual 339, 3) := by decide +kernel
theorem dX10_laysClasses_118 : decode cX10_laysClasses 118 = .ok (.ifCond .eq 7, 3) := by decide +kernel
theorem dX10_laysClasses_121 : decode cX10_laysClasses 121 = .ok (.iconst (-1), 1) := by decide +kernel
theorem dX10_laysClasses_122 : decode cX10_laysClasses 122 = .ok (.goto 4, 3) := by decide +kernel
theorem dX10_laysClasses_125 : decode cX10_laysClasses 125 = .ok (.iload_n 3, 1) := by decide +kernel
theorem dX10_laysClasses_126 : decode cX10_laysClasses 126 = .ok (.iastore, 1) := by decide +kernel
theorem dX10_laysClasses_127 : decode cX10_laysClasses 127 = .ok (.aload_n 0, 1) := by decide +kernel
theorem dX10_laysClasses_128 : decode cX10_laysClasses 128 = .ok (.getfield 81, 3) := by decide +kernel
theorem dX10_laysClasses_131 : decode cX10_laysClasses 131 = .ok (.iload_n 1, 1) := by decide +kernel
theorem dX10_laysClasses_132 : decode cX10_laysClasses 132 = .ok (.iaload, 1) := by decide +kernel
theorem dX10_laysClasses_133 : decode cX10_laysClasses 133 = .ok (.iconst (-1), 1) := by decide +kernel
theorem dX10_laysClasses_134 : decode cX10_laysClasses 134 = .ok (.if_icmp .eq 13, 3) := by decide +kernel
theorem dX10_laysClasses_137 : decode cX10_laysClasses 137 = .ok (.aload_n 0, 1) := by decide +kernel
theorem dX10_laysClasses_138 : decode cX10_laysClasses 138 = .ok (.getfield 84, 3) := by decide +kernel
theorem dX10_laysClasses_141 : decode cX10_laysClasses 141 = .ok (.iload_n 3, 1) := by decide +kernel
theorem dX10_laysClasses_142 : decode cX10_laysClasses 142 = .ok (.dup2, 1) := by decide +kernel
theorem dX10_laysClasses_143 : decode cX10_laysClasses 143 = .ok (.iaload, 1) := by decide +kernel
theorem dX10_laysClasses_144 : decode cX10_laysClasses 144 = .ok (.iconst 1, 1) := by decide +kernel
theorem dX10_laysClasses_145 : decode cX10_laysClasses 145 = .ok (.iadd, 1) := by decide +kernel
theorem dX10_laysClasses_146 : decode cX10_laysClasses 146 = .ok (.iastore, 1) := by decide +kernel
theorem dX10_laysClasses_147 : decode cX10_laysClasses 147 = .ok (.iinc 1 1, 3) := by decide +kernel
theorem dX10_laysClasses_150 : decode cX10_laysClasses 150 = .ok (.goto (-118), 3) := by decide +kernel
theorem dX10_laysClasses_153 : decode cX10_laysClasses 153 = .ok (.return_, 1) := by decide +kernel
theorem dX10_triesAll_0 : decode cX10_triesAll 0 = .ok (.aload_n 0, 1) := by decide +kernel
theorem dX10_triesAll_1 : decode cX10_triesAll 1 = .ok (.getfield 240, 3) := by decide +kernel
theorem dX10_triesAll_4 : decode cX10_triesAll 4 = .ok (.ifCond .eq 4, 3) := by decide +kernel
theorem dX10_triesAll_7 : decode cX10_triesAll 7 = .ok (.return_, 1) := by decide +kernel
theorem dX10_triesAll_8 : decode cX10_triesAll 8 = .ok (.aload_n 0, 1) := by decide +kernel
theorem dX10_triesAll_9 : decode cX10_triesAll 9 = .ok (.iconst 1, 1) := by decide +kernel
theorem dX10_triesAll_10 : decode cX10_triesAll 10 = .ok (.putfield 240, 3) := by decide +kernel
theorem dX10_triesAll_13 : decode cX10_triesAll 13 = .ok (.aload_n 0, 1) := by decide +kernel
theorem dX10_triesAll_14 : decode cX10_triesAll 14 = .ok (.invokevirtual 348, 3) := by decide +kernel
theorem dX10_triesAll_17 : decode cX10_triesAll 17 = .ok (.aload_n 0, 1) := by decide +kernel
theorem dX10_triesAll_18 : decode cX10_triesAll 18 = .ok (.iconst 0, 1) := by decide +kernel
theorem dX10_triesAll_19 : decode cX10_triesAll 19 = .ok (.putfield 351, 3) := by decide +kernel
theorem dX10_triesAll_22 : decode cX10_triesAll 22 = .ok (.iconst 0, 1) := by decide +kernel
theorem dX10_triesAll_23 : decode cX10_triesAll 23 = .ok (.istore_n 1, 1) := by decide +kernel
theorem dX10_triesAll_24 : decode cX10_triesAll 24 = .ok (.iload_n 1, 1) := by decide +kernel
theorem dX10_triesAll_25 : decode cX10_triesAll 25 = .ok (.aload_n 0, 1) := by decide +kernel
theorem dX10_triesAll_26 : decode cX10_triesAll 26 = .ok (.getfield 7, 3) := by decide +kernel
theorem dX10_triesAll_29 : decode cX10_triesAll 29 = .ok (.iconst 5, 1) := by decide +kernel
theorem dX10_triesAll_30 : decode cX10_triesAll 30 = .ok (.iaload, 1) := by decide +kernel
theorem dX10_triesAll_31 : decode cX10_triesAll 31 = .ok (.if_icmp .ge 37, 3) := by decide +kernel
theorem dX10_triesAll_34 : decode cX10_triesAll 34 = .ok (.aload_n 0, 1) := by decide +kernel
theorem dX10_triesAll_35 : decode cX10_triesAll 35 = .ok (.iload_n 1, 1) := by decide +kernel
theorem dX10_triesAll_36 : decode cX10_triesAll 36 = .ok (.invokevirtual 324, 3) := by decide +kernel
theorem dX10_triesAll_39 : decode cX10_triesAll 39 = .ok (.ifCond .eq 23, 3) := by decide +kernel
theorem dX10_triesAll_42 : decode cX10_triesAll 42 = .ok (.aload_n 0, 1) := by decide +kernel
theorem dX10_triesAll_43 : decode cX10_triesAll 43 = .ok (.getfield 90, 3) := by decide +kernel
theorem dX10_triesAll_46 : decode cX10_triesAll 46 = .ok (.aload_n 0, 1) := by decide +kernel
theorem dX10_triesAll_47 : decode cX10_triesAll 47 = .ok (.getfield 351, 3) := by decide +kernel
theorem dX10_triesAll_50 : decode cX10_triesAll 50 = .ok (.iload_n 1, 1) := by decide +kernel
theorem dX10_triesAll_51 : decode cX10_triesAll 51 = .ok (.iastore, 1) := by decide +kernel
theorem dX10_triesAll_52 : decode cX10_triesAll 52 = .ok (.aload_n 0, 1) := by decide +kernel
theorem dX10_triesAll_53 : decode cX10_triesAll 53 = .ok (.dup, 1) := by decide +kernel
theorem dX10_triesAll_54 : decode cX10_triesAll 54 = .ok (.getfield 351, 3) := by decide +kernel
theorem dX10_triesAll_57 : decode cX10_triesAll 57 = .ok (.iconst 1, 1) := by decide +kernel
theorem dX10_triesAll_58 : decode cX10_triesAll 58 = .ok (.iadd, 1) := by decide +kernel
theorem dX10_triesAll_59 : decode cX10_triesAll 59 = .ok (.putfield 351, 3) := by decide +kernel
theorem dX10_triesAll_62 : decode cX10_triesAll 62 = .ok (.iinc 1 1, 3) := by decide +kernel
theorem dX10_triesAll_65 : decode cX10_triesAll 65 = .ok (.goto (-41), 3) := by decide +kernel
theorem dX10_triesAll_68 : decode cX10_triesAll 68 = .ok (.aload_n 0, 1) := by decide +kernel
theorem dX10_triesAll_69 : decode cX10_triesAll 69 = .ok (.invokevirtual 298, 3) := by decide +kernel
theorem dX10_triesAll_72 : decode cX10_triesAll 72 = .ok (.aload_n 0, 1) := by decide +kernel
theorem dX10_triesAll_73 : decode cX10_triesAll 73 = .ok (.invokevirtual 301, 3) := by decide +kernel
theorem dX10_triesAll_76 : decode cX10_triesAll 76 = .ok (.iconst 0, 1) := by decide +kernel
theorem dX10_triesAll_77 : decode cX10_triesAll 77 = .ok (.istore_n 1, 1) := by decide +kernel
theorem dX10_triesAll_78 : decode cX10_triesAll 78 = .ok (.iload_n 1, 1) := by decide +kernel
theorem dX10_triesAll_79 : decode cX10_triesAll 79 = .ok (.aload_n 0, 1) := by decide +kernel
theorem dX10_triesAll_80 : decode cX10_triesAll 80 = .ok (.getfield 7, 3) := by decide +kernel
theorem dX10_triesAll_83 : decode cX10_triesAll 83 = .ok (.iconst 5, 1) := by decide +kernel
theorem dX10_triesAll_84 : decode cX10_triesAll 84 = .ok (.iaload, 1) := by decide +kernel
theorem dX10_triesAll_85 : decode cX10_triesAll 85 = .ok (.if_icmp .ge 21, 3) := by decide +kernel
theorem dX10_triesAll_88 : decode cX10_triesAll 88 = .ok (.aload_n 0, 1) := by decide +kernel
theorem dX10_triesAll_89 : decode cX10_triesAll 89 = .ok (.getfield 72, 3) := by decide +kernel
theorem dX10_triesAll_92 : decode cX10_triesAll 92 = .ok (.iload_n 1, 1) := by decide +kernel
theorem dX10_triesAll_93 : decode cX10_triesAll 93 = .ok (.aload_n 0, 1) := by decide +kernel
theorem dX10_triesAll_94 : decode cX10_triesAll 94 = .ok (.getfield 75, 3) := by decide +kernel
theorem dX10_triesAll_97 : decode cX10_triesAll 97 = .ok (.iload_n 1, 1) := by decide +kernel
theorem dX10_triesAll_98 : decode cX10_triesAll 98 = .ok (.iaload, 1) := by decide +kernel
theorem dX10_triesAll_99 : decode cX10_triesAll 99 = .ok (.iastore, 1) := by decide +kernel
theorem dX10_triesAll_100 : decode cX10_triesAll 100 = .ok (.iinc 1 1, 3) := by decide +kernel
theorem dX10_triesAll_103 : decode cX10_triesAll 103 = .ok (.goto (-25), 3) := by decide +kernel
theorem dX10_triesAll_106 : decode cX10_triesAll 106 = .ok (.aload_n 0, 1) := by decide +kernel
theorem dX10_triesAll_107 : decode cX10_triesAll 107 = .ok (.ldc_w 354, 3) := by decide +kernel
theorem dX10_triesAll_110 : decode cX10_triesAll 110 = .ok (.putfield 355, 3) := by decide +kernel
theorem dX10_triesAll_113 : decode cX10_triesAll 113 = .ok (.aload_n 0, 1) := by decide +kernel
theorem dX10_triesAll_114 : decode cX10_triesAll 114 = .ok (.lconst 0, 1) := by decide +kernel
theorem dX10_triesAll_115 : decode cX10_triesAll 115 = .ok (.putfield 358, 3) := by decide +kernel
theorem dX10_triesAll_118 : decode cX10_triesAll 118 = .ok (.aload_n 0, 1) := by decide +kernel
theorem dX10_triesAll_119 : decode cX10_triesAll 119 = .ok (.iconst 0, 1) := by decide +kernel
theorem dX10_triesAll_120 : decode cX10_triesAll 120 = .ok (.putfield 362, 3) := by decide +kernel
theorem dX10_triesAll_123 : decode cX10_triesAll 123 = .ok (.aload_n 0, 1) := by decide +kernel
theorem dX10_triesAll_124 : decode cX10_triesAll 124 = .ok (.iconst 0, 1) := by decide +kernel
theorem dX10_triesAll_125 : decode cX10_triesAll 125 = .ok (.lconst 1, 1) := by decide +kernel
theorem dX10_triesAll_126 : decode cX10_triesAll 126 = .ok (.invokevirtual 365, 3) := by decide +kernel
theorem dX10_triesAll_129 : decode cX10_triesAll 129 = .ok (.return_, 1) := by decide +kernel
theorem dX10_placeOf_0 : decode cX10_placeOf 0 = .ok (.iconst 0, 1) := by decide +kernel
theorem dX10_placeOf_1 : decode cX10_placeOf 1 = .ok (.istore_n 3, 1) := by decide +kernel
theorem dX10_placeOf_2 : decode cX10_placeOf 2 = .ok (.iload_n 3, 1) := by decide +kernel
theorem dX10_placeOf_3 : decode cX10_placeOf 3 = .ok (.aload_n 0, 1) := by decide +kernel
theorem dX10_placeOf_4 : decode cX10_placeOf 4 = .ok (.invokevirtual 218, 3) := by decide +kernel
theorem dX10_placeOf_7 : decode cX10_placeOf 7 = .ok (.if_icmp .ge 76, 3) := by decide +kernel
theorem dX10_placeOf_10 : decode cX10_placeOf 10 = .ok (.aload_n 0, 1) := by decide +kernel
theorem dX10_placeOf_11 : decode cX10_placeOf 11 = .ok (.getfield 81, 3) := by decide +kernel
theorem dX10_placeOf_14 : decode cX10_placeOf 14 = .ok (.iload_n 3, 1) := by decide +kernel
theorem dX10_placeOf_15 : decode cX10_placeOf 15 = .ok (.iaload, 1) := by decide +kernel
theorem dX10_placeOf_16 : decode cX10_placeOf 16 = .ok (.iload_n 1, 1) := by decide +kernel
theorem dX10_placeOf_17 : decode cX10_placeOf 17 = .ok (.if_icmp .ne 7, 3) := by decide +kernel
theorem dX10_placeOf_20 : decode cX10_placeOf 20 = .ok (.iconst 1, 1) := by decide +kernel
theorem dX10_placeOf_21 : decode cX10_placeOf 21 = .ok (.goto 4, 3) := by decide +kernel
theorem dX10_placeOf_24 : decode cX10_placeOf 24 = .ok (.iconst 0, 1) := by decide +kernel
theorem dX10_placeOf_25 : decode cX10_placeOf 25 = .ok (.istore 4, 2) := by decide +kernel
theorem dX10_placeOf_27 : decode cX10_placeOf 27 = .ok (.iconst 0, 1) := by decide +kernel
theorem dX10_placeOf_28 : decode cX10_placeOf 28 = .ok (.istore 5, 2) := by decide +kernel
theorem dX10_placeOf_30 : decode cX10_placeOf 30 = .ok (.iload 5, 2) := by decide +kernel
theorem dX10_placeOf_32 : decode cX10_placeOf 32 = .ok (.iload_n 2, 1) := by decide +kernel
theorem dX10_placeOf_33 : decode cX10_placeOf 33 = .ok (.if_icmp .ge 37, 3) := by decide +kernel
theorem dX10_placeOf_36 : decode cX10_placeOf 36 = .ok (.iload 4, 2) := by decide +kernel
theorem dX10_placeOf_38 : decode cX10_placeOf 38 = .ok (.ifCond .eq 23, 3) := by decide +kernel
theorem dX10_placeOf_41 : decode cX10_placeOf 41 = .ok (.aload_n 0, 1) := by decide +kernel
theorem dX10_placeOf_42 : decode cX10_placeOf 42 = .ok (.getfield 72, 3) := by decide +kernel
theorem dX10_placeOf_45 : decode cX10_placeOf 45 = .ok (.aload_n 0, 1) := by decide +kernel
theorem dX10_placeOf_46 : decode cX10_placeOf 46 = .ok (.getfield 90, 3) := by decide +kernel
theorem dX10_placeOf_49 : decode cX10_placeOf 49 = .ok (.iload 5, 2) := by decide +kernel
theorem dX10_placeOf_51 : decode cX10_placeOf 51 = .ok (.iaload, 1) := by decide +kernel
theorem dX10_placeOf_52 : decode cX10_placeOf 52 = .ok (.iaload, 1) := by decide +kernel
theorem dX10_placeOf_53 : decode cX10_placeOf 53 = .ok (.iload_n 3, 1) := by decide +kernel
theorem dX10_placeOf_54 : decode cX10_placeOf 54 = .ok (.if_icmp .eq 7, 3) := by decide +kernel
theorem dX10_placeOf_57 : decode cX10_placeOf 57 = .ok (.iconst 1, 1) := by decide +kernel
theorem dX10_placeOf_58 : decode cX10_placeOf 58 = .ok (.goto 4, 3) := by decide +kernel
theorem dX10_placeOf_61 : decode cX10_placeOf 61 = .ok (.iconst 0, 1) := by decide +kernel
theorem dX10_placeOf_62 : decode cX10_placeOf 62 = .ok (.istore 4, 2) := by decide +kernel
theorem dX10_placeOf_64 : decode cX10_placeOf 64 = .ok (.iinc 5 1, 3) := by decide +kernel
theorem dX10_placeOf_67 : decode cX10_placeOf 67 = .ok (.goto (-37), 3) := by decide +kernel
theorem dX10_placeOf_70 : decode cX10_placeOf 70 = .ok (.iload 4, 2) := by decide +kernel
theorem dX10_placeOf_72 : decode cX10_placeOf 72 = .ok (.ifCond .eq 5, 3) := by decide +kernel
theorem dX10_placeOf_75 : decode cX10_placeOf 75 = .ok (.iload_n 3, 1) := by decide +kernel
theorem dX10_placeOf_76 : decode cX10_placeOf 76 = .ok (.ireturn, 1) := by decide +kernel
theorem dX10_placeOf_77 : decode cX10_placeOf 77 = .ok (.iinc 3 1, 3) := by decide +kernel
theorem dX10_placeOf_80 : decode cX10_placeOf 80 = .ok (.goto (-78), 3) := by decide +kernel
theorem dX10_placeOf_83 : decode cX10_placeOf 83 = .ok (.iconst (-1), 1) := by decide +kernel
theorem dX10_placeOf_84 : decode cX10_placeOf 84 = .ok (.ireturn, 1) := by decide +kernel
theorem dX10_tries_0 : decode cX10_tries 0 = .ok (.iload_n 1, 1) := by decide +kernel
theorem dX10_tries_1 : decode cX10_tries 1 = .ok (.aload_n 0, 1) := by decide +kernel
theorem dX10_tries_2 : decode cX10_tries 2 = .ok (.getfield 351, 3) := by decide +kernel
theorem dX10_tries_5 : decode cX10_tries 5 = .ok (.if_icmp .ne 9, 3) := by decide +kernel
theorem dX10_tries_8 : decode cX10_tries 8 = .ok (.aload_n 0, 1) := by decide +kernel
theorem dX10_tries_9 : decode cX10_tries 9 = .ok (.lload_n 2, 1) := by decide +kernel
theorem dX10_tries_10 : decode cX10_tries 10 = .ok (.invokevirtual 369, 3) := by decide +kernel
theorem dX10_tries_13 : decode cX10_tries 13 = .ok (.return_, 1) := by decide +kernel
theorem dX10_tries_14 : decode cX10_tries 14 = .ok (.iconst 0, 1) := by decide +kernel
theorem dX10_tries_15 : decode cX10_tries 15 = .ok (.istore 4, 2) := by decide +kernel
theorem dX10_tries_17 : decode cX10_tries 17 = .ok (.iload 4, 2) := by decide +kernel
theorem dX10_tries_19 : decode cX10_tries 19 = .ok (.bipush 24, 2) := by decide +kernel
theorem dX10_tries_21 : decode cX10_tries 21 = .ok (.if_icmp .ge 78, 3) := by decide +kernel
theorem dX10_tries_24 : decode cX10_tries 24 = .ok (.aload_n 0, 1) := by decide +kernel
theorem dX10_tries_25 : decode cX10_tries 25 = .ok (.getfield 84, 3) := by decide +kernel
theorem dX10_tries_28 : decode cX10_tries 28 = .ok (.iload 4, 2) := by decide +kernel
theorem dX10_tries_30 : decode cX10_tries 30 = .ok (.iaload, 1) := by decide +kernel
theorem dX10_tries_31 : decode cX10_tries 31 = .ok (.ifCond .le 62, 3) := by decide +kernel
theorem dX10_tries_34 : decode cX10_tries 34 = .ok (.aload_n 0, 1) := by decide +kernel
theorem dX10_tries_35 : decode cX10_tries 35 = .ok (.getfield 72, 3) := by decide +kernel
theorem dX10_tries_38 : decode cX10_tries 38 = .ok (.aload_n 0, 1) := by decide +kernel
theorem dX10_tries_39 : decode cX10_tries 39 = .ok (.getfield 90, 3) := by decide +kernel
theorem dX10_tries_42 : decode cX10_tries 42 = .ok (.iload_n 1, 1) := by decide +kernel
theorem dX10_tries_43 : decode cX10_tries 43 = .ok (.iaload, 1) := by decide +kernel
theorem dX10_tries_44 : decode cX10_tries 44 = .ok (.aload_n 0, 1) := by decide +kernel
theorem dX10_tries_45 : decode cX10_tries 45 = .ok (.iload 4, 2) := by decide +kernel
theorem dX10_tries_47 : decode cX10_tries 47 = .ok (.iload_n 1, 1) := by decide +kernel
theorem dX10_tries_48 : decode cX10_tries 48 = .ok (.invokevirtual 373, 3) := by decide +kernel
theorem dX10_tries_51 : decode cX10_tries 51 = .ok (.iastore, 1) := by decide +kernel
theorem dX10_tries_52 : decode cX10_tries 52 = .ok (.aload_n 0, 1) := by decide +kernel
theorem dX10_tries_53 : decode cX10_tries 53 = .ok (.getfield 84, 3) := by decide +kernel
theorem dX10_tries_56 : decode cX10_tries 56 = .ok (.iload 4, 2) := by decide +kernel
theorem dX10_tries_58 : decode cX10_tries 58 = .ok (.dup2, 1) := by decide +kernel
theorem dX10_tries_59 : decode cX10_tries 59 = .ok (.iaload, 1) := by decide +kernel
theorem dX10_tries_60 : decode cX10_tries 60 = .ok (.iconst 1, 1) := by decide +kernel
theorem dX10_tries_61 : decode cX10_tries 61 = .ok (.isub, 1) := by decide +kernel
theorem dX10_tries_62 : decode cX10_tries 62 = .ok (.iastore, 1) := by decide +kernel
theorem dX10_tries_63 : decode cX10_tries 63 = .ok (.aload_n 0, 1) := by decide +kernel
theorem dX10_tries_64 : decode cX10_tries 64 = .ok (.iload_n 1, 1) := by decide +kernel
theorem dX10_tries_65 : decode cX10_tries 65 = .ok (.iconst 1, 1) := by decide +kernel
theorem dX10_tries_66 : decode cX10_tries 66 = .ok (.iadd, 1) := by decide +kernel
theorem dX10_tries_67 : decode cX10_tries 67 = .ok (.lload_n 2, 1) := by decide +kernel
theorem dX10_tries_68 : decode cX10_tries 68 = .ok (.aload_n 0, 1) := by decide +kernel
theorem dX10_tries_69 : decode cX10_tries 69 = .ok (.getfield 84, 3) := by decide +kernel
theorem dX10_tries_72 : decode cX10_tries 72 = .ok (.iload 4, 2) := by decide +kernel
theorem dX10_tries_74 : decode cX10_tries 74 = .ok (.iaload, 1) := by decide +kernel
theorem dX10_tries_75 : decode cX10_tries 75 = .ok (.iconst 1, 1) := by decide +kernel
theorem dX10_tries_76 : decode cX10_tries 76 = .ok (.iadd, 1) := by decide +kernel
theorem dX10_tries_77 : decode cX10_tries 77 = .ok (.i2l, 1) := by decide +kernel
theorem dX10_tries_78 : decode cX10_tries 78 = .ok (.lmul, 1) := by decide +kernel
theorem dX10_tries_79 : decode cX10_tries 79 = .ok (.invokevirtual 365, 3) := by decide +kernel
theorem dX10_tries_82 : decode cX10_tries 82 = .ok (.aload_n 0, 1) := by decide +kernel
theorem dX10_tries_83 : decode cX10_tries 83 = .ok (.getfield 84, 3) := by decide +kernel
theorem dX10_tries_86 : decode cX10_tries 86 = .ok (.iload 4, 2) := by decide +kernel
theorem dX10_tries_88 : decode cX10_tries 88 = .ok (.dup2, 1) := by decide +kernel
theorem dX10_tries_89 : decode cX10_tries 89 = .ok (.iaload, 1) := by decide +kernel
theorem dX10_tries_90 : decode cX10_tries 90 = .ok (.iconst 1, 1) := by decide +kernel
theorem dX10_tries_91 : decode cX10_tries 91 = .ok (.iadd, 1) := by decide +kernel
theorem dX10_tries_92 : decode cX10_tries 92 = .ok (.iastore, 1) := by decide +kernel
theorem dX10_tries_93 : decode cX10_tries 93 = .ok (.iinc 4 1, 3) := by decide +kernel
theorem dX10_tries_96 : decode cX10_tries 96 = .ok (.goto (-79), 3) := by decide +kernel
theorem dX10_tries_99 : decode cX10_tries 99 = .ok (.return_, 1) := by decide +kernel
theorem dX10_weighs_0 : decode cX10_weighs 0 = .ok (.aload_n 0, 1) := by decide +kernel
theorem dX10_weighs_1 : decode cX10_weighs 1 = .ok (.invokevirtual 304, 3) := by decide +kernel
theorem dX10_weighs_4 : decode cX10_weighs 4 = .ok (.istore_n 3, 1) := by decide +kernel
theorem dX10_weighs_5 : decode cX10_weighs 5 = .ok (.aload_n 0, 1) := by decide +kernel
theorem dX10_weighs_6 : decode cX10_weighs 6 = .ok (.aload_n 0, 1) := by decide +kernel
theorem dX10_weighs_7 : decode cX10_weighs 7 = .ok (.getfield 362, 3) := by decide +kernel
theorem dX10_weighs_10 : decode cX10_weighs 10 = .ok (.iload_n 3, 1) := by decide +kernel
theorem dX10_weighs_11 : decode cX10_weighs 11 = .ok (.invokestatic 376, 3) := by decide +kernel
theorem dX10_weighs_14 : decode cX10_weighs 14 = .ok (.putfield 362, 3) := by decide +kernel
theorem dX10_weighs_17 : decode cX10_weighs 17 = .ok (.iload_n 3, 1) := by decide +kernel
theorem dX10_weighs_18 : decode cX10_weighs 18 = .ok (.aload_n 0, 1) := by decide +kernel
theorem dX10_weighs_19 : decode cX10_weighs 19 = .ok (.getfield 355, 3) := by decide +kernel
theorem dX10_weighs_22 : decode cX10_weighs 22 = .ok (.if_icmp .le 4, 3) := by decide +kernel
theorem dX10_weighs_25 : decode cX10_weighs 25 = .ok (.return_, 1) := by decide +kernel
theorem dX10_weighs_26 : decode cX10_weighs 26 = .ok (.iload_n 3, 1) := by decide +kernel
theorem dX10_weighs_27 : decode cX10_weighs 27 = .ok (.aload_n 0, 1) := by decide +kernel
theorem dX10_weighs_28 : decode cX10_weighs 28 = .ok (.getfield 355, 3) := by decide +kernel
theorem dX10_weighs_31 : decode cX10_weighs 31 = .ok (.if_icmp .ge 7, 3) := by decide +kernel
theorem dX10_weighs_34 : decode cX10_weighs 34 = .ok (.iconst 1, 1) := by decide +kernel
theorem dX10_weighs_35 : decode cX10_weighs 35 = .ok (.goto 4, 3) := by decide +kernel
theorem dX10_weighs_38 : decode cX10_weighs 38 = .ok (.iconst 0, 1) := by decide +kernel
theorem dX10_weighs_39 : decode cX10_weighs 39 = .ok (.istore 4, 2) := by decide +kernel
theorem dX10_weighs_41 : decode cX10_weighs 41 = .ok (.aload_n 0, 1) := by decide +kernel
theorem dX10_weighs_42 : decode cX10_weighs 42 = .ok (.iload 4, 2) := by decide +kernel
theorem dX10_weighs_44 : decode cX10_weighs 44 = .ok (.ifCond .eq 7, 3) := by decide +kernel
theorem dX10_weighs_47 : decode cX10_weighs 47 = .ok (.lload_n 1, 1) := by decide +kernel
theorem dX10_weighs_48 : decode cX10_weighs 48 = .ok (.goto 9, 3) := by decide +kernel
theorem dX10_weighs_51 : decode cX10_weighs 51 = .ok (.aload_n 0, 1) := by decide +kernel
theorem dX10_weighs_52 : decode cX10_weighs 52 = .ok (.getfield 358, 3) := by decide +kernel
theorem dX10_weighs_55 : decode cX10_weighs 55 = .ok (.lload_n 1, 1) := by decide +kernel
theorem dX10_weighs_56 : decode cX10_weighs 56 = .ok (.ladd, 1) := by decide +kernel
theorem dX10_weighs_57 : decode cX10_weighs 57 = .ok (.putfield 358, 3) := by decide +kernel
theorem dX10_weighs_60 : decode cX10_weighs 60 = .ok (.iload 4, 2) := by decide +kernel
theorem dX10_weighs_62 : decode cX10_weighs 62 = .ok (.ifCond .ne 10, 3) := by decide +kernel
theorem dX10_weighs_65 : decode cX10_weighs 65 = .ok (.aload_n 0, 1) := by decide +kernel
theorem dX10_weighs_66 : decode cX10_weighs 66 = .ok (.invokevirtual 379, 3) := by decide +kernel
theorem dX10_weighs_69 : decode cX10_weighs 69 = .ok (.ifCond .eq 42, 3) := by decide +kernel
theorem dX10_weighs_72 : decode cX10_weighs 72 = .ok (.aload_n 0, 1) := by decide +kernel
theorem dX10_weighs_73 : decode cX10_weighs 73 = .ok (.iload_n 3, 1) := by decide +kernel
theorem dX10_weighs_74 : decode cX10_weighs 74 = .ok (.putfield 355, 3) := by decide +kernel
theorem dX10_weighs_77 : decode cX10_weighs 77 = .ok (.iconst 0, 1) := by decide +kernel
theorem dX10_weighs_78 : decode cX10_weighs 78 = .ok (.istore 5, 2) := by decide +kernel
theorem dX10_weighs_80 : decode cX10_weighs 80 = .ok (.iload 5, 2) := by decide +kernel
theorem dX10_weighs_82 : decode cX10_weighs 82 = .ok (.aload_n 0, 1) := by decide +kernel
theorem dX10_weighs_83 : decode cX10_weighs 83 = .ok (.getfield 7, 3) := by decide +kernel
theorem dX10_weighs_86 : decode cX10_weighs 86 = .ok (.iconst 5, 1) := by decide +kernel
theorem dX10_weighs_87 : decode cX10_weighs 87 = .ok (.iaload, 1) := by decide +kernel
theorem dX10_weighs_88 : decode cX10_weighs 88 = .ok (.if_icmp .ge 23, 3) := by decide +kernel
theorem dX10_weighs_91 : decode cX10_weighs 91 = .ok (.aload_n 0, 1) := by decide +kernel
theorem dX10_weighs_92 : decode cX10_weighs 92 = .ok (.getfield 78, 3) := by decide +kernel
theorem dX10_weighs_95 : decode cX10_weighs 95 = .ok (.iload 5, 2) := by decide +kernel
theorem dX10_weighs_97 : decode cX10_weighs 97 = .ok (.aload_n 0, 1) := by decide +kernel
theorem dX10_weighs_98 : decode cX10_weighs 98 = .ok (.getfield 72, 3) := by decide +kernel
theorem dX10_weighs_101 : decode cX10_weighs 101 = .ok (.iload 5, 2) := by decide +kernel
theorem dX10_weighs_103 : decode cX10_weighs 103 = .ok (.iaload, 1) := by decide +kernel
theorem dX10_weighs_104 : decode cX10_weighs 104 = .ok (.iastore, 1) := by decide +kernel
theorem dX10_weighs_105 : decode cX10_weighs 105 = .ok (.iinc 5 1, 3) := by decide +kernel
theorem dX10_weighs_108 : decode cX10_weighs 108 = .ok (.goto (-28), 3) := by decide +kernel
theorem dX10_weighs_111 : decode cX10_weighs 111 = .ok (.return_, 1) := by decide +kernel
theorem dX10_isAhead_0 : decode cX10_isAhead 0 = .ok (.iconst 0, 1) := by decide +kernel
theorem dX10_isAhead_1 : decode cX10_isAhead 1 = .ok (.istore_n 1, 1) := by decide +kernel
theorem dX10_isAhead_2 : decode cX10_isAhead 2 = .ok (.iload_n 1, 1) := by decide +kernel
theorem dX10_isAhead_3 : decode cX10_isAhead 3 = .ok (.aload_n 0, 1) := by decide +kernel
theorem dX10_isAhead_4 : decode cX10_isAhead 4 = .ok (.getfield 351, 3) := by decide +kernel
theorem dX10_isAhead_7 : decode cX10_isAhead 7 = .ok (.if_icmp .ge 65, 3) := by decide +kernel
theorem dX10_isAhead_10 : decode cX10_isAhead 10 = .ok (.aload_n 0, 1) := by decide +kernel
theorem dX10_isAhead_11 : decode cX10_isAhead 11 = .ok (.getfield 72, 3) := by decide +kernel
theorem dX10_isAhead_14 : decode cX10_isAhead 14 = .ok (.aload_n 0, 1) := by decide +kernel
theorem dX10_isAhead_15 : decode cX10_isAhead 15 = .ok (.getfield 90, 3) := by decide +kernel
theorem dX10_isAhead_18 : decode cX10_isAhead 18 = .ok (.iload_n 1, 1) := by decide +kernel
theorem dX10_isAhead_19 : decode cX10_isAhead 19 = .ok (.iaload, 1) := by decide +kernel
theorem dX10_isAhead_20 : decode cX10_isAhead 20 = .ok (.iaload, 1) := by decide +kernel
theorem dX10_isAhead_21 : decode cX10_isAhead 21 = .ok (.aload_n 0, 1) := by decide +kernel
theorem dX10_isAhead_22 : decode cX10_isAhead 22 = .ok (.getfield 78, 3) := by decide +kernel
theorem dX10_isAhead_25 : decode cX10_isAhead 25 = .ok (.aload_n 0, 1) := by decide +kernel
theorem dX10_isAhead_26 : decode cX10_isAhead 26 = .ok (.getfield 90, 3) := by decide +kernel
theorem dX10_isAhead_29 : decode cX10_isAhead 29 = .ok (.iload_n 1, 1) := by decide +kernel
theorem dX10_isAhead_30 : decode cX10_isAhead 30 = .ok (.iaload, 1) := by decide +kernel
theorem dX10_isAhead_31 : decode cX10_isAhead 31 = .ok (.iaload, 1) := by decide +kernel
theorem dX10_isAhead_32 : decode cX10_isAhead 32 = .ok (.if_icmp .eq 34, 3) := by decide +kernel
theorem dX10_isAhead_35 : decode cX10_isAhead 35 = .ok (.aload_n 0, 1) := by decide +kernel
theorem dX10_isAhead_36 : decode cX10_isAhead 36 = .ok (.getfield 72, 3) := by decide +kernel
theorem dX10_isAhead_39 : decode cX10_isAhead 39 = .ok (.aload_n 0, 1) := by decide +kernel
theorem dX10_isAhead_40 : decode cX10_isAhead 40 = .ok (.getfield 90, 3) := by decide +kernel
theorem dX10_isAhead_43 : decode cX10_isAhead 43 = .ok (.iload_n 1, 1) := by decide +kernel
theorem dX10_isAhead_44 : decode cX10_isAhead 44 = .ok (.iaload, 1) := by decide +kernel
theorem dX10_isAhead_45 : decode cX10_isAhead 45 = .ok (.iaload, 1) := by decide +kernel
theorem dX10_isAhead_46 : decode cX10_isAhead 46 = .ok (.aload_n 0, 1) := by decide +kernel
theorem dX10_isAhead_47 : decode cX10_isAhead 47 = .ok (.getfield 78, 3) := by decide +kernel
theorem dX10_isAhead_50 : decode cX10_isAhead 50 = .ok (.aload_n 0, 1) := by decide +kernel
theorem dX10_isAhead_51 : decode cX10_isAhead 51 = .ok (.getfield 90, 3) := by decide +kernel
theorem dX10_isAhead_54 : decode cX10_isAhead 54 = .ok (.iload_n 1, 1) := by decide +kernel
theorem dX10_isAhead_55 : decode cX10_isAhead 55 = .ok (.iaload, 1) := by decide +kernel
theorem dX10_isAhead_56 : decode cX10_isAhead 56 = .ok (.iaload, 1) := by decide +kernel
theorem dX10_isAhead_57 : decode cX10_isAhead 57 = .ok (.if_icmp .ge 7, 3) := by decide +kernel
theorem dX10_isAhead_60 : decode cX10_isAhead 60 = .ok (.iconst 1, 1) := by decide +kernel
theorem dX10_isAhead_61 : decode cX10_isAhead 61 = .ok (.goto 4, 3) := by decide +kernel
theorem dX10_isAhead_64 : decode cX10_isAhead 64 = .ok (.iconst 0, 1) := by decide +kernel
theorem dX10_isAhead_65 : decode cX10_isAhead 65 = .ok (.ireturn, 1) := by decide +kernel
theorem dX10_isAhead_66 : decode cX10_isAhead 66 = .ok (.iinc 1 1, 3) := by decide +kernel
theorem dX10_isAhead_69 : decode cX10_isAhead 69 = .ok (.goto (-67), 3) := by decide +kernel
theorem dX10_isAhead_72 : decode cX10_isAhead 72 = .ok (.iconst 0, 1) := by decide +kernel
theorem dX10_isAhead_73 : decode cX10_isAhead 73 = .ok (.ireturn, 1) := by decide +kernel
theorem dX10_laysBy_0 : decode cX10_laysBy 0 = .ok (.aload_n 0, 1) := by decide +kernel
theorem dX10_laysBy_1 : decode cX10_laysBy 1 = .ok (.invokevirtual 345, 3) := by decide +kernel
theorem dX10_laysBy_4 : decode cX10_laysBy 4 = .ok (.iload_n 1, 1) := by decide +kernel
theorem dX10_laysBy_5 : decode cX10_laysBy 5 = .ok (.iconst 1, 1) := by decide +kernel
theorem dX10_laysBy_6 : decode cX10_laysBy 6 = .ok (.if_icmp .ne 14, 3) := by decide +kernel
theorem dX10_laysBy_9 : decode cX10_laysBy 9 = .ok (.aload_n 0, 1) := by decide +kernel
theorem dX10_laysBy_10 : decode cX10_laysBy 10 = .ok (.invokevirtual 307, 3) := by decide +kernel
theorem dX10_laysBy_13 : decode cX10_laysBy 13 = .ok (.ifCond .eq 7, 3) := by decide +kernel
theorem dX10_laysBy_16 : decode cX10_laysBy 16 = .ok (.aload_n 0, 1) := by decide +kernel
theorem dX10_laysBy_17 : decode cX10_laysBy 17 = .ok (.invokevirtual 382, 3) := by decide +kernel
theorem dX10_laysBy_20 : decode cX10_laysBy 20 = .ok (.iload_n 1, 1) := by decide +kernel
theorem dX10_laysBy_21 : decode cX10_laysBy 21 = .ok (.iconst 2, 1) := by decide +kernel
theorem dX10_laysBy_22 : decode cX10_laysBy 22 = .ok (.if_icmp .ne 37, 3) := by decide +kernel
theorem dX10_laysBy_25 : decode cX10_laysBy 25 = .ok (.aload_n 0, 1) := by decide +kernel
theorem dX10_laysBy_26 : decode cX10_laysBy 26 = .ok (.invokevirtual 385, 3) := by decide +kernel
theorem dX10_laysBy_29 : decode cX10_laysBy 29 = .ok (.iconst 0, 1) := by decide +kernel
theorem dX10_laysBy_30 : decode cX10_laysBy 30 = .ok (.istore_n 2, 1) := by decide +kernel
theorem dX10_laysBy_31 : decode cX10_laysBy 31 = .ok (.iload_n 2, 1) := by decide +kernel
theorem dX10_laysBy_32 : decode cX10_laysBy 32 = .ok (.aload_n 0, 1) := by decide +kernel
theorem dX10_laysBy_33 : decode cX10_laysBy 33 = .ok (.getfield 7, 3) := by decide +kernel
theorem dX10_laysBy_36 : decode cX10_laysBy 36 = .ok (.iconst 5, 1) := by decide +kernel
theorem dX10_laysBy_37 : decode cX10_laysBy 37 = .ok (.iaload, 1) := by decide +kernel
theorem dX10_laysBy_38 : decode cX10_laysBy 38 = .ok (.if_icmp .ge 21, 3) := by decide +kernel
theorem dX10_laysBy_41 : decode cX10_laysBy 41 = .ok (.aload_n 0, 1) := by decide +kernel
theorem dX10_laysBy_42 : decode cX10_laysBy 42 = .ok (.getfield 75, 3) := by decide +kernel
theorem dX10_laysBy_45 : decode cX10_laysBy 45 = .ok (.iload_n 2, 1) := by decide +kernel
theorem dX10_laysBy_46 : decode cX10_laysBy 46 = .ok (.aload_n 0, 1) := by decide +kernel
theorem dX10_laysBy_47 : decode cX10_laysBy 47 = .ok (.getfield 78, 3) := by decide +kernel
theorem dX10_laysBy_50 : decode cX10_laysBy 50 = .ok (.iload_n 2, 1) := by decide +kernel
theorem dX10_laysBy_51 : decode cX10_laysBy 51 = .ok (.iaload, 1) := by decide +kernel
theorem dX10_laysBy_52 : decode cX10_laysBy 52 = .ok (.iastore, 1) := by decide +kernel
theorem dX10_laysBy_53 : decode cX10_laysBy 53 = .ok (.iinc 2 1, 3) := by decide +kernel
theorem dX10_laysBy_56 : decode cX10_laysBy 56 = .ok (.goto (-25), 3) := by decide +kernel
theorem dX10_laysBy_59 : decode cX10_laysBy 59 = .ok (.aload_n 0, 1) := by decide +kernel
theorem dX10_laysBy_60 : decode cX10_laysBy 60 = .ok (.invokevirtual 388, 3) := by decide +kernel
theorem dX10_laysBy_63 : decode cX10_laysBy 63 = .ok (.return_, 1) := by decide +kernel
theorem dX10_takesLaid_0 : decode cX10_takesLaid 0 = .ok (.iconst 0, 1) := by decide +kernel
theorem dX10_takesLaid_1 : decode cX10_takesLaid 1 = .ok (.istore_n 1, 1) := by decide +kernel
theorem dX10_takesLaid_2 : decode cX10_takesLaid 2 = .ok (.iload_n 1, 1) := by decide +kernel
theorem dX10_takesLaid_3 : decode cX10_takesLaid 3 = .ok (.aload_n 0, 1) := by decide +kernel
theorem dX10_takesLaid_4 : decode cX10_takesLaid 4 = .ok (.getfield 7, 3) := by decide +kernel
theorem dX10_takesLaid_7 : decode cX10_takesLaid 7 = .ok (.iconst 5, 1) := by decide +kernel
theorem dX10_takesLaid_8 : decode cX10_takesLaid 8 = .ok (.iaload, 1) := by decide +kernel
theorem dX10_takesLaid_9 : decode cX10_takesLaid 9 = .ok (.if_icmp .ge 25, 3) := by decide +kernel
theorem dX10_takesLaid_12 : decode cX10_takesLaid 12 = .ok (.aload_n 0, 1) := by decide +kernel
theorem dX10_takesLaid_13 : decode cX10_takesLaid 13 = .ok (.getfield 7, 3) := by decide +kernel
theorem dX10_takesLaid_16 : decode cX10_takesLaid 16 = .ok (.sipush 149, 3) := by decide +kernel
theorem dX10_takesLaid_19 : decode cX10_takesLaid 19 = .ok (.iload_n 1, 1) := by decide +kernel
theorem dX10_takesLaid_20 : decode cX10_takesLaid 20 = .ok (.iadd, 1) := by decide +kernel
theorem dX10_takesLaid_21 : decode cX10_takesLaid 21 = .ok (.aload_n 0, 1) := by decide +kernel
theorem dX10_takesLaid_22 : decode cX10_takesLaid 22 = .ok (.getfield 75, 3) := by decide +kernel
theorem dX10_takesLaid_25 : decode cX10_takesLaid 25 = .ok (.iload_n 1, 1) := by decide +kernel
theorem dX10_takesLaid_26 : decode cX10_takesLaid 26 = .ok (.iaload, 1) := by decide +kernel
theorem dX10_takesLaid_27 : decode cX10_takesLaid 27 = .ok (.iastore, 1) := by decide +kernel
theorem dX10_takesLaid_28 : decode cX10_takesLaid 28 = .ok (.iinc 1 1, 3) := by decide +kernel
theorem dX10_takesLaid_31 : decode cX10_takesLaid 31 = .ok (.goto (-29), 3) := by decide +kernel
theorem dX10_takesLaid_34 : decode cX10_takesLaid 34 = .ok (.return_, 1) := by decide +kernel
theorem dX10_whyNotLaw_0 : decode cX10_whyNotLaw 0 = .ok (.aload_n 0, 1) := by decide +kernel
theorem dX10_whyNotLaw_1 : decode cX10_whyNotLaw 1 = .ok (.invokevirtual 307, 3) := by decide +kernel
theorem dX10_whyNotLaw_4 : decode cX10_whyNotLaw 4 = .ok (.ifCond .eq 15, 3) := by decide +kernel
theorem dX10_whyNotLaw_7 : decode cX10_whyNotLaw 7 = .ok (.iload_n 1, 1) := by decide +kernel
theorem dX10_whyNotLaw_8 : decode cX10_whyNotLaw 8 = .ok (.i2l, 1) := by decide +kernel
theorem dX10_whyNotLaw_9 : decode cX10_whyNotLaw 9 = .ok (.lconst 0, 1) := by decide +kernel
theorem dX10_whyNotLaw_10 : decode cX10_whyNotLaw 10 = .ok (.ldc2_w 391, 3) := by decide +kernel
theorem dX10_whyNotLaw_13 : decode cX10_whyNotLaw 13 = .ok (.invokestatic 96, 3) := by decide +kernel
theorem dX10_whyNotLaw_16 : decode cX10_whyNotLaw 16 = .ok (.ifCond .ne 6, 3) := by decide +kernel
theorem dX10_whyNotLaw_19 : decode cX10_whyNotLaw 19 = .ok (.bipush (-2), 2) := by decide +kernel
theorem dX10_whyNotLaw_21 : decode cX10_whyNotLaw 21 = .ok (.ireturn, 1) := by decide +kernel
theorem dX10_whyNotLaw_22 : decode cX10_whyNotLaw 22 = .ok (.iload_n 1, 1) := by decide +kernel
theorem dX10_whyNotLaw_23 : decode cX10_whyNotLaw 23 = .ok (.iconst 2, 1) := by decide +kernel
theorem dX10_whyNotLaw_24 : decode cX10_whyNotLaw 24 = .ok (.if_icmp .ne 16, 3) := by decide +kernel
theorem dX10_whyNotLaw_27 : decode cX10_whyNotLaw 27 = .ok (.aload_n 0, 1) := by decide +kernel
theorem dX10_whyNotLaw_28 : decode cX10_whyNotLaw 28 = .ok (.invokevirtual 249, 3) := by decide +kernel
theorem dX10_whyNotLaw_31 : decode cX10_whyNotLaw 31 = .ok (.iconst 4, 1) := by decide +kernel
theorem dX10_whyNotLaw_32 : decode cX10_whyNotLaw 32 = .ok (.if_icmp .le 8, 3) := by decide +kernel
theorem dX10_whyNotLaw_35 : decode cX10_whyNotLaw 35 = .ok (.bipush (-3), 2) := by decide +kernel
theorem dX10_whyNotLaw_37 : decode cX10_whyNotLaw 37 = .ok (.goto 4, 3) := by decide +kernel
theorem dX10_whyNotLaw_40 : decode cX10_whyNotLaw 40 = .ok (.iconst 0, 1) := by decide +kernel
theorem dX10_whyNotLaw_41 : decode cX10_whyNotLaw 41 = .ok (.ireturn, 1) := by decide +kernel
theorem dX10_lawful_0 : decode cX10_lawful 0 = .ok (.aload_n 0, 1) := by decide +kernel
theorem dX10_lawful_1 : decode cX10_lawful 1 = .ok (.iload_n 1, 1) := by decide +kernel
theorem dX10_lawful_2 : decode cX10_lawful 2 = .ok (.invokevirtual 393, 3) := by decide +kernel
theorem dX10_lawful_5 : decode cX10_lawful 5 = .ok (.istore_n 2, 1) := by decide +kernel
theorem dX10_lawful_6 : decode cX10_lawful 6 = .ok (.iload_n 2, 1) := by decide +kernel
theorem dX10_lawful_7 : decode cX10_lawful 7 = .ok (.ifCond .ge 5, 3) := by decide +kernel
theorem dX10_lawful_10 : decode cX10_lawful 10 = .ok (.iload_n 2, 1) := by decide +kernel
theorem dX10_lawful_11 : decode cX10_lawful 11 = .ok (.ireturn, 1) := by decide +kernel
theorem dX10_lawful_12 : decode cX10_lawful 12 = .ok (.aload_n 0, 1) := by decide +kernel
theorem dX10_lawful_13 : decode cX10_lawful 13 = .ok (.iload_n 1, 1) := by decide +kernel
theorem dX10_lawful_14 : decode cX10_lawful 14 = .ok (.invokevirtual 243, 3) := by decide +kernel
theorem dX10_lawful_17 : decode cX10_lawful 17 = .ok (.aload_n 0, 1) := by decide +kernel
theorem dX10_lawful_18 : decode cX10_lawful 18 = .ok (.invokevirtual 298, 3) := by decide +kernel
theorem dX10_lawful_21 : decode cX10_lawful 21 = .ok (.aload_n 0, 1) := by decide +kernel
theorem dX10_lawful_22 : decode cX10_lawful 22 = .ok (.invokevirtual 301, 3) := by decide +kernel
theorem dX10_lawful_25 : decode cX10_lawful 25 = .ok (.iconst 0, 1) := by decide +kernel
theorem dX10_lawful_26 : decode cX10_lawful 26 = .ok (.istore_n 3, 1) := by decide +kernel
theorem dX10_lawful_27 : decode cX10_lawful 27 = .ok (.iload_n 3, 1) := by decide +kernel
theorem dX10_lawful_28 : decode cX10_lawful 28 = .ok (.aload_n 0, 1) := by decide +kernel
theorem dX10_lawful_29 : decode cX10_lawful 29 = .ok (.getfield 7, 3) := by decide +kernel
theorem dX10_lawful_32 : decode cX10_lawful 32 = .ok (.iconst 5, 1) := by decide +kernel
theorem dX10_lawful_33 : decode cX10_lawful 33 = .ok (.iaload, 1) := by decide +kernel
theorem dX10_lawful_34 : decode cX10_lawful 34 = .ok (.if_icmp .ge 21, 3) := by decide +kernel
theorem dX10_lawful_37 : decode cX10_lawful 37 = .ok (.aload_n 0, 1) := by decide +kernel
theorem dX10_lawful_38 : decode cX10_lawful 38 = .ok (.getfield 72, 3) := by decide +kernel
theorem dX10_lawful_41 : decode cX10_lawful 41 = .ok (.iload_n 3, 1) := by decide +kernel
theorem dX10_lawful_42 : decode cX10_lawful 42 = .ok (.aload_n 0, 1) := by decide +kernel
theorem dX10_lawful_43 : decode cX10_lawful 43 = .ok (.getfield 75, 3) := by decide +kernel
theorem dX10_lawful_46 : decode cX10_lawful 46 = .ok (.iload_n 3, 1) := by decide +kernel
theorem dX10_lawful_47 : decode cX10_lawful 47 = .ok (.iaload, 1) := by decide +kernel
theorem dX10_lawful_48 : decode cX10_lawful 48 = .ok (.iastore, 1) := by decide +kernel
theorem dX10_lawful_49 : decode cX10_lawful 49 = .ok (.iinc 3 1, 3) := by decide +kernel
theorem dX10_lawful_52 : decode cX10_lawful 52 = .ok (.goto (-25), 3) := by decide +kernel
theorem dX10_lawful_55 : decode cX10_lawful 55 = .ok (.aload_n 0, 1) := by decide +kernel
theorem dX10_lawful_56 : decode cX10_lawful 56 = .ok (.invokevirtual 304, 3) := by decide +kernel
theorem dX10_lawful_59 : decode cX10_lawful 59 = .ok (.ireturn, 1) := by decide +kernel
theorem dX10_address_0 : decode cX10_address 0 = .ok (.aload_n 0, 1) := by decide +kernel
theorem dX10_address_1 : decode cX10_address 1 = .ok (.iload_n 2, 1) := by decide +kernel
theorem dX10_address_2 : decode cX10_address 2 = .ok (.invokevirtual 252, 3) := by decide +kernel
theorem dX10_address_5 : decode cX10_address 5 = .ok (.ifCond .ne 6, 3) := by decide +kernel
theorem dX10_address_8 : decode cX10_address 8 = .ok (.bipush (-2), 2) := by decide +kernel
theorem dX10_address_10 : decode cX10_address 10 = .ok (.ireturn, 1) := by decide +kernel
theorem dX10_address_11 : decode cX10_address 11 = .ok (.aload_n 0, 1) := by decide +kernel
theorem dX10_address_12 : decode cX10_address 12 = .ok (.iload_n 1, 1) := by decide +kernel
theorem dX10_address_13 : decode cX10_address 13 = .ok (.invokevirtual 393, 3) := by decide +kernel
theorem dX10_address_16 : decode cX10_address 16 = .ok (.istore_n 3, 1) := by decide +kernel
theorem dX10_address_17 : decode cX10_address 17 = .ok (.iload_n 3, 1) := by decide +kernel
theorem dX10_address_18 : decode cX10_address 18 = .ok (.ifCond .ge 5, 3) := by decide +kernel
theorem dX10_address_21 : decode cX10_address 21 = .ok (.iload_n 3, 1) := by decide +kernel
theorem dX10_address_22 : decode cX10_address 22 = .ok (.ireturn, 1) := by decide +kernel
theorem dX10_address_23 : decode cX10_address 23 = .ok (.aload_n 0, 1) := by decide +kernel
theorem dX10_address_24 : decode cX10_address 24 = .ok (.iload_n 1, 1) := by decide +kernel
theorem dX10_address_25 : decode cX10_address 25 = .ok (.invokevirtual 243, 3) := by decide +kernel
theorem dX10_address_28 : decode cX10_address 28 = .ok (.aload_n 0, 1) := by decide +kernel
theorem dX10_address_29 : decode cX10_address 29 = .ok (.getfield 75, 3) := by decide +kernel
theorem dX10_address_32 : decode cX10_address 32 = .ok (.iload_n 2, 1) := by decide +kernel
theorem dX10_address_33 : decode cX10_address 33 = .ok (.iaload, 1) := by decide +kernel
theorem dX10_address_34 : decode cX10_address 34 = .ok (.ireturn, 1) := by decide +kernel
theorem dX10_ways_0 : decode cX10_ways 0 = .ok (.aload_n 0, 1) := by decide +kernel
theorem dX10_ways_1 : decode cX10_ways 1 = .ok (.iconst 2, 1) := by decide +kernel
theorem dX10_ways_2 : decode cX10_ways 2 = .ok (.invokevirtual 393, 3) := by decide +kernel
theorem dX10_ways_5 : decode cX10_ways 5 = .ok (.istore_n 1, 1) := by decide +kernel
theorem dX10_ways_6 : decode cX10_ways 6 = .ok (.iload_n 1, 1) := by decide +kernel
theorem dX10_ways_7 : decode cX10_ways 7 = .ok (.ifCond .ge 6, 3) := by decide +kernel
theorem dX10_ways_10 : decode cX10_ways 10 = .ok (.iload_n 1, 1) := by decide +kernel
theorem dX10_ways_11 : decode cX10_ways 11 = .ok (.i2l, 1) := by decide +kernel
theorem dX10_ways_12 : decode cX10_ways 12 = .ok (.lreturn, 1) := by decide +kernel
theorem dX10_ways_13 : decode cX10_ways 13 = .ok (.aload_n 0, 1) := by decide +kernel
theorem dX10_ways_14 : decode cX10_ways 14 = .ok (.invokevirtual 385, 3) := by decide +kernel
theorem dX10_ways_17 : decode cX10_ways 17 = .ok (.aload_n 0, 1) := by decide +kernel
theorem dX10_ways_18 : decode cX10_ways 18 = .ok (.getfield 358, 3) := by decide +kernel
theorem dX10_ways_21 : decode cX10_ways 21 = .ok (.lreturn, 1) := by decide +kernel
theorem dX10_dearest_0 : decode cX10_dearest 0 = .ok (.aload_n 0, 1) := by decide +kernel
theorem dX10_dearest_1 : decode cX10_dearest 1 = .ok (.iconst 2, 1) := by decide +kernel
theorem dX10_dearest_2 : decode cX10_dearest 2 = .ok (.invokevirtual 393, 3) := by decide +kernel
theorem dX10_dearest_5 : decode cX10_dearest 5 = .ok (.istore_n 1, 1) := by decide +kernel
theorem dX10_dearest_6 : decode cX10_dearest 6 = .ok (.iload_n 1, 1) := by decide +kernel
theorem dX10_dearest_7 : decode cX10_dearest 7 = .ok (.ifCond .ge 5, 3) := by decide +kernel
theorem dX10_dearest_10 : decode cX10_dearest 10 = .ok (.iload_n 1, 1) := by decide +kernel
theorem dX10_dearest_11 : decode cX10_dearest 11 = .ok (.ireturn, 1) := by decide +kernel
theorem dX10_dearest_12 : decode cX10_dearest 12 = .ok (.aload_n 0, 1) := by decide +kernel
theorem dX10_dearest_13 : decode cX10_dearest 13 = .ok (.invokevirtual 385, 3) := by decide +kernel
theorem dX10_dearest_16 : decode cX10_dearest 16 = .ok (.aload_n 0, 1) := by decide +kernel
theorem dX10_dearest_17 : decode cX10_dearest 17 = .ok (.getfield 362, 3) := by decide +kernel
theorem dX10_dearest_20 : decode cX10_dearest 20 = .ok (.ireturn, 1) := by decide +kernel
theorem dX10_keeps_0 : decode cX10_keeps 0 = .ok (.iconst 0, 1) := by decide +kernel
theorem dX10_keeps_1 : decode cX10_keeps 1 = .ok (.istore_n 1, 1) := by decide +kernel
theorem dX10_keeps_2 : decode cX10_keeps 2 = .ok (.iload_n 1, 1) := by decide +kernel
theorem dX10_keeps_3 : decode cX10_keeps 3 = .ok (.bipush 20, 2) := by decide +kernel
theorem dX10_keeps_5 : decode cX10_keeps 5 = .ok (.if_icmp .ge 36, 3) := by decide +kernel
theorem dX10_keeps_8 : decode cX10_keeps 8 = .ok (.aload_n 0, 1) := by decide +kernel
theorem dX10_keeps_9 : decode cX10_keeps 9 = .ok (.getfield 16, 3) := by decide +kernel
theorem dX10_keeps_12 : decode cX10_keeps 12 = .ok (.bipush 20, 2) := by decide +kernel
theorem dX10_keeps_14 : decode cX10_keeps 14 = .ok (.aload_n 0, 1) := by decide +kernel
theorem dX10_keeps_15 : decode cX10_keeps 15 = .ok (.getfield 7, 3) := by decide +kernel
theorem dX10_keeps_18 : decode cX10_keeps 18 = .ok (.bipush 7, 2) := by decide +kernel
theorem dX10_keeps_20 : decode cX10_keeps 20 = .ok (.iaload, 1) := by decide +kernel
theorem dX10_keeps_21 : decode cX10_keeps 21 = .ok (.imul, 1) := by decide +kernel
theorem dX10_keeps_22 : decode cX10_keeps 22 = .ok (.iload_n 1, 1) := by decide +kernel
theorem dX10_keeps_23 : decode cX10_keeps 23 = .ok (.iadd, 1) := by decide +kernel
theorem dX10_keeps_24 : decode cX10_keeps 24 = .ok (.aload_n 0, 1) := by decide +kernel
theorem dX10_keeps_25 : decode cX10_keeps 25 = .ok (.getfield 7, 3) := by decide +kernel
theorem dX10_keeps_28 : decode cX10_keeps 28 = .ok (.sipush 149, 3) := by decide +kernel
theorem dX10_keeps_31 : decode cX10_keeps 31 = .ok (.iload_n 1, 1) := by decide +kernel
theorem dX10_keeps_32 : decode cX10_keeps 32 = .ok (.iadd, 1) := by decide +kernel
theorem dX10_keeps_33 : decode cX10_keeps 33 = .ok (.iaload, 1) := by decide +kernel
theorem dX10_keeps_34 : decode cX10_keeps 34 = .ok (.iastore, 1) := by decide +kernel
theorem dX10_keeps_35 : decode cX10_keeps 35 = .ok (.iinc 1 1, 3) := by decide +kernel
theorem dX10_keeps_38 : decode cX10_keeps 38 = .ok (.goto (-36), 3) := by decide +kernel
theorem dX10_keeps_41 : decode cX10_keeps 41 = .ok (.aload_n 0, 1) := by decide +kernel
theorem dX10_keeps_42 : decode cX10_keeps 42 = .ok (.getfield 7, 3) := by decide +kernel
theorem dX10_keeps_45 : decode cX10_keeps 45 = .ok (.bipush 7, 2) := by decide +kernel
theorem dX10_keeps_47 : decode cX10_keeps 47 = .ok (.dup2, 1) := by decide +kernel
theorem dX10_keeps_48 : decode cX10_keeps 48 = .ok (.iaload, 1) := by decide +kernel
theorem dX10_keeps_49 : decode cX10_keeps 49 = .ok (.iconst 1, 1) := by decide +kernel
theorem dX10_keeps_50 : decode cX10_keeps 50 = .ok (.iadd, 1) := by decide +kernel
theorem dX10_keeps_51 : decode cX10_keeps 51 = .ok (.iastore, 1) := by decide +kernel
theorem dX10_keeps_52 : decode cX10_keeps 52 = .ok (.return_, 1) := by decide +kernel
theorem dX10_goesBack_0 : decode cX10_goesBack 0 = .ok (.aload_n 0, 1) := by decide +kernel
theorem dX10_goesBack_1 : decode cX10_goesBack 1 = .ok (.getfield 7, 3) := by decide +kernel
theorem dX10_goesBack_4 : decode cX10_goesBack 4 = .ok (.bipush 7, 2) := by decide +kernel
theorem dX10_goesBack_6 : decode cX10_goesBack 6 = .ok (.iload_n 1, 1) := by decide +kernel
theorem dX10_goesBack_7 : decode cX10_goesBack 7 = .ok (.iastore, 1) := by decide +kernel
theorem dX10_goesBack_8 : decode cX10_goesBack 8 = .ok (.iconst 0, 1) := by decide +kernel
theorem dX10_goesBack_9 : decode cX10_goesBack 9 = .ok (.istore_n 2, 1) := by decide +kernel
theorem dX10_goesBack_10 : decode cX10_goesBack 10 = .ok (.iload_n 2, 1) := by decide +kernel
theorem dX10_goesBack_11 : decode cX10_goesBack 11 = .ok (.bipush 20, 2) := by decide +kernel
theorem dX10_goesBack_13 : decode cX10_goesBack 13 = .ok (.if_icmp .ge 30, 3) := by decide +kernel
theorem dX10_goesBack_16 : decode cX10_goesBack 16 = .ok (.aload_n 0, 1) := by decide +kernel
theorem dX10_goesBack_17 : decode cX10_goesBack 17 = .ok (.getfield 7, 3) := by decide +kernel
theorem dX10_goesBack_20 : decode cX10_goesBack 20 = .ok (.sipush 149, 3) := by decide +kernel
theorem dX10_goesBack_23 : decode cX10_goesBack 23 = .ok (.iload_n 2, 1) := by decide +kernel
theorem dX10_goesBack_24 : decode cX10_goesBack 24 = .ok (.iadd, 1) := by decide +kernel
theorem dX10_goesBack_25 : decode cX10_goesBack 25 = .ok (.aload_n 0, 1) := by decide +kernel
theorem dX10_goesBack_26 : decode cX10_goesBack 26 = .ok (.getfield 16, 3) := by decide +kernel
theorem dX10_goesBack_29 : decode cX10_goesBack 29 = .ok (.bipush 20, 2) := by decide +kernel
theorem dX10_goesBack_31 : decode cX10_goesBack 31 = .ok (.iload_n 1, 1) := by decide +kernel
theorem dX10_goesBack_32 : decode cX10_goesBack 32 = .ok (.imul, 1) := by decide +kernel
theorem dX10_goesBack_33 : decode cX10_goesBack 33 = .ok (.iload_n 2, 1) := by decide +kernel
theorem dX10_goesBack_34 : decode cX10_goesBack 34 = .ok (.iadd, 1) := by decide +kernel
theorem dX10_goesBack_35 : decode cX10_goesBack 35 = .ok (.iaload, 1) := by decide +kernel
theorem dX10_goesBack_36 : decode cX10_goesBack 36 = .ok (.iastore, 1) := by decide +kernel
theorem dX10_goesBack_37 : decode cX10_goesBack 37 = .ok (.iinc 2 1, 3) := by decide +kernel
theorem dX10_goesBack_40 : decode cX10_goesBack 40 = .ok (.goto (-30), 3) := by decide +kernel
theorem dX10_goesBack_43 : decode cX10_goesBack 43 = .ok (.return_, 1) := by decide +kernel
theorem dX10_put_0 : decode cX10_put 0 = .ok (.aload_n 0, 1) := by decide +kernel
theorem dX10_put_1 : decode cX10_put 1 = .ok (.iload_n 1, 1) := by decide +kernel
theorem dX10_put_2 : decode cX10_put 2 = .ok (.iload_n 2, 1) := by decide +kernel
theorem dX10_put_3 : decode cX10_put 3 = .ok (.invokevirtual 327, 3) := by decide +kernel
theorem dX10_put_6 : decode cX10_put 6 = .ok (.istore_n 3, 1) := by decide +kernel
theorem dX10_put_7 : decode cX10_put 7 = .ok (.iload_n 3, 1) := by decide +kernel
theorem dX10_put_8 : decode cX10_put 8 = .ok (.ifCond .lt 15, 3) := by decide +kernel
theorem dX10_put_11 : decode cX10_put 11 = .ok (.aload_n 0, 1) := by decide +kernel
theorem dX10_put_12 : decode cX10_put 12 = .ok (.getfield 7, 3) := by decide +kernel
theorem dX10_put_15 : decode cX10_put 15 = .ok (.bipush 7, 2) := by decide +kernel
theorem dX10_put_17 : decode cX10_put 17 = .ok (.iaload, 1) := by decide +kernel
theorem dX10_put_18 : decode cX10_put 18 = .ok (.bipush 20, 2) := by decide +kernel
theorem dX10_put_20 : decode cX10_put 20 = .ok (.if_icmp .ne 14, 3) := by decide +kernel
theorem dX10_put_23 : decode cX10_put 23 = .ok (.iload_n 3, 1) := by decide +kernel
theorem dX10_put_24 : decode cX10_put 24 = .ok (.ifCond .ge 7, 3) := by decide +kernel
theorem dX10_put_27 : decode cX10_put 27 = .ok (.iload_n 3, 1) := by decide +kernel
theorem dX10_put_28 : decode cX10_put 28 = .ok (.goto 5, 3) := by decide +kernel
theorem dX10_put_31 : decode cX10_put 31 = .ok (.bipush (-5), 2) := by decide +kernel
theorem dX10_put_33 : decode cX10_put 33 = .ok (.ireturn, 1) := by decide +kernel
theorem dX10_put_34 : decode cX10_put 34 = .ok (.aload_n 0, 1) := by decide +kernel
theorem dX10_put_35 : decode cX10_put 35 = .ok (.invokevirtual 396, 3) := by decide +kernel
theorem dX10_put_38 : decode cX10_put 38 = .ok (.aload_n 0, 1) := by decide +kernel
theorem dX10_put_39 : decode cX10_put 39 = .ok (.getfield 7, 3) := by decide +kernel
theorem dX10_put_42 : decode cX10_put 42 = .ok (.sipush 149, 3) := by decide +kernel
theorem dX10_put_45 : decode cX10_put 45 = .ok (.iload_n 1, 1) := by decide +kernel
theorem dX10_put_46 : decode cX10_put 46 = .ok (.iadd, 1) := by decide +kernel
theorem dX10_put_47 : decode cX10_put 47 = .ok (.iload_n 2, 1) := by decide +kernel
theorem dX10_put_48 : decode cX10_put 48 = .ok (.iastore, 1) := by decide +kernel
theorem dX10_put_49 : decode cX10_put 49 = .ok (.aload_n 0, 1) := by decide +kernel
theorem dX10_put_50 : decode cX10_put 50 = .ok (.invokevirtual 313, 3) := by decide +kernel
theorem dX10_put_53 : decode cX10_put 53 = .ok (.ireturn, 1) := by decide +kernel
theorem dX10_swap_0 : decode cX10_swap 0 = .ok (.aload_n 0, 1) := by decide +kernel
theorem dX10_swap_1 : decode cX10_swap 1 = .ok (.iload_n 1, 1) := by decide +kernel
theorem dX10_swap_2 : decode cX10_swap 2 = .ok (.iload_n 2, 1) := by decide +kernel
theorem dX10_swap_3 : decode cX10_swap 3 = .ok (.invokevirtual 333, 3) := by decide +kernel
theorem dX10_swap_6 : decode cX10_swap 6 = .ok (.istore_n 3, 1) := by decide +kernel
theorem dX10_swap_7 : decode cX10_swap 7 = .ok (.iload_n 3, 1) := by decide +kernel
theorem dX10_swap_8 : decode cX10_swap 8 = .ok (.ifCond .lt 15, 3) := by decide +kernel
theorem dX10_swap_11 : decode cX10_swap 11 = .ok (.aload_n 0, 1) := by decide +kernel
theorem dX10_swap_12 : decode cX10_swap 12 = .ok (.getfield 7, 3) := by decide +kernel
theorem dX10_swap_15 : decode cX10_swap 15 = .ok (.bipush 7, 2) := by decide +kernel
theorem dX10_swap_17 : decode cX10_swap 17 = .ok (.iaload, 1) := by decide +kernel
theorem dX10_swap_18 : decode cX10_swap 18 = .ok (.bipush 20, 2) := by decide +kernel
theorem dX10_swap_20 : decode cX10_swap 20 = .ok (.if_icmp .ne 14, 3) := by decide +kernel
theorem dX10_swap_23 : decode cX10_swap 23 = .ok (.iload_n 3, 1) := by decide +kernel
theorem dX10_swap_24 : decode cX10_swap 24 = .ok (.ifCond .ge 7, 3) := by decide +kernel
theorem dX10_swap_27 : decode cX10_swap 27 = .ok (.iload_n 3, 1) := by decide +kernel
theorem dX10_swap_28 : decode cX10_swap 28 = .ok (.goto 5, 3) := by decide +kernel
theorem dX10_swap_31 : decode cX10_swap 31 = .ok (.bipush (-5), 2) := by decide +kernel
theorem dX10_swap_33 : decode cX10_swap 33 = .ok (.ireturn, 1) := by decide +kernel
theorem dX10_swap_34 : decode cX10_swap 34 = .ok (.aload_n 0, 1) := by decide +kernel
theorem dX10_swap_35 : decode cX10_swap 35 = .ok (.invokevirtual 396, 3) := by decide +kernel
theorem dX10_swap_38 : decode cX10_swap 38 = .ok (.aload_n 0, 1) := by decide +kernel
theorem dX10_swap_39 : decode cX10_swap 39 = .ok (.getfield 7, 3) := by decide +kernel
theorem dX10_swap_42 : decode cX10_swap 42 = .ok (.sipush 149, 3) := by decide +kernel
theorem dX10_swap_45 : decode cX10_swap 45 = .ok (.iload_n 1, 1) := by decide +kernel
theorem dX10_swap_46 : decode cX10_swap 46 = .ok (.iadd, 1) := by decide +kernel
theorem dX10_swap_47 : decode cX10_swap 47 = .ok (.iaload, 1) := by decide +kernel
theorem dX10_swap_48 : decode cX10_swap 48 = .ok (.istore 4, 2) := by decide +kernel
theorem dX10_swap_50 : decode cX10_swap 50 = .ok (.aload_n 0, 1) := by decide +kernel
theorem dX10_swap_51 : decode cX10_swap 51 = .ok (.getfield 7, 3) := by decide +kernel
theorem dX10_swap_54 : decode cX10_swap 54 = .ok (.sipush 149, 3) := by decide +kernel
theorem dX10_swap_57 : decode cX10_swap 57 = .ok (.iload_n 1, 1) := by decide +kernel
theorem dX10_swap_58 : decode cX10_swap 58 = .ok (.iadd, 1) := by decide +kernel
theorem dX10_swap_59 : decode cX10_swap 59 = .ok (.aload_n 0, 1) := by decide +kernel
theorem dX10_swap_60 : decode cX10_swap 60 = .ok (.getfield 7, 3) := by decide +kernel
theorem dX10_swap_63 : decode cX10_swap 63 = .ok (.sipush 149, 3) := by decide +kernel
theorem dX10_swap_66 : decode cX10_swap 66 = .ok (.iload_n 2, 1) := by decide +kernel
theorem dX10_swap_67 : decode cX10_swap 67 = .ok (.iadd, 1) := by decide +kernel
theorem dX10_swap_68 : decode cX10_swap 68 = .ok (.iaload, 1) := by decide +kernel
theorem dX10_swap_69 : decode cX10_swap 69 = .ok (.iastore, 1) := by decide +kernel
theorem dX10_swap_70 : decode cX10_swap 70 = .ok (.aload_n 0, 1) := by decide +kernel
theorem dX10_swap_71 : decode cX10_swap 71 = .ok (.getfield 7, 3) := by decide +kernel
theorem dX10_swap_74 : decode cX10_swap 74 = .ok (.sipush 149, 3) := by decide +kernel
theorem dX10_swap_77 : decode cX10_swap 77 = .ok (.iload_n 2, 1) := by decide +kernel
theorem dX10_swap_78 : decode cX10_swap 78 = .ok (.iadd, 1) := by decide +kernel
theorem dX10_swap_79 : decode cX10_swap 79 = .ok (.iload 4, 2) := by decide +kernel
theorem dX10_swap_81 : decode cX10_swap 81 = .ok (.iastore, 1) := by decide +kernel
theorem dX10_swap_82 : decode cX10_swap 82 = .ok (.aload_n 0, 1) := by decide +kernel
theorem dX10_swap_83 : decode cX10_swap 83 = .ok (.invokevirtual 313, 3) := by decide +kernel
theorem dX10_swap_86 : decode cX10_swap 86 = .ok (.ireturn, 1) := by decide +kernel
theorem dX10_lays_0 : decode cX10_lays 0 = .ok (.aload_n 0, 1) := by decide +kernel
theorem dX10_lays_1 : decode cX10_lays 1 = .ok (.iload_n 1, 1) := by decide +kernel
theorem dX10_lays_2 : decode cX10_lays 2 = .ok (.invokevirtual 393, 3) := by decide +kernel
theorem dX10_lays_5 : decode cX10_lays 5 = .ok (.istore_n 2, 1) := by decide +kernel
theorem dX10_lays_6 : decode cX10_lays 6 = .ok (.iload_n 2, 1) := by decide +kernel
theorem dX10_lays_7 : decode cX10_lays 7 = .ok (.bipush (-2), 2) := by decide +kernel
theorem dX10_lays_9 : decode cX10_lays 9 = .ok (.if_icmp .eq 37, 3) := by decide +kernel
theorem dX10_lays_12 : decode cX10_lays 12 = .ok (.iload_n 2, 1) := by decide +kernel
theorem dX10_lays_13 : decode cX10_lays 13 = .ok (.ifCond .ne 15, 3) := by decide +kernel
theorem dX10_lays_16 : decode cX10_lays 16 = .ok (.aload_n 0, 1) := by decide +kernel
theorem dX10_lays_17 : decode cX10_lays 17 = .ok (.getfield 7, 3) := by decide +kernel
theorem dX10_lays_20 : decode cX10_lays 20 = .ok (.bipush 7, 2) := by decide +kernel
theorem dX10_lays_22 : decode cX10_lays 22 = .ok (.iaload, 1) := by decide +kernel
theorem dX10_lays_23 : decode cX10_lays 23 = .ok (.bipush 20, 2) := by decide +kernel
theorem dX10_lays_25 : decode cX10_lays 25 = .ok (.if_icmp .eq 21, 3) := by decide +kernel
theorem dX10_lays_28 : decode cX10_lays 28 = .ok (.iload_n 2, 1) := by decide +kernel
theorem dX10_lays_29 : decode cX10_lays 29 = .ok (.bipush (-3), 2) := by decide +kernel
theorem dX10_lays_31 : decode cX10_lays 31 = .ok (.if_icmp .ne 28, 3) := by decide +kernel
theorem dX10_lays_34 : decode cX10_lays 34 = .ok (.aload_n 0, 1) := by decide +kernel
theorem dX10_lays_35 : decode cX10_lays 35 = .ok (.getfield 7, 3) := by decide +kernel
theorem dX10_lays_38 : decode cX10_lays 38 = .ok (.bipush 7, 2) := by decide +kernel
theorem dX10_lays_40 : decode cX10_lays 40 = .ok (.iaload, 1) := by decide +kernel
theorem dX10_lays_41 : decode cX10_lays 41 = .ok (.bipush 20, 2) := by decide +kernel
theorem dX10_lays_43 : decode cX10_lays 43 = .ok (.if_icmp .ne 16, 3) := by decide +kernel
theorem dX10_lays_46 : decode cX10_lays 46 = .ok (.iload_n 2, 1) := by decide +kernel
theorem dX10_lays_47 : decode cX10_lays 47 = .ok (.bipush (-2), 2) := by decide +kernel
theorem dX10_lays_49 : decode cX10_lays 49 = .ok (.if_icmp .ne 7, 3) := by decide +kernel
theorem dX10_lays_52 : decode cX10_lays 52 = .ok (.iload_n 2, 1) := by decide +kernel
theorem dX10_lays_53 : decode cX10_lays 53 = .ok (.goto 5, 3) := by decide +kernel
theorem dX10_lays_56 : decode cX10_lays 56 = .ok (.bipush (-5), 2) := by decide +kernel
theorem dX10_lays_58 : decode cX10_lays 58 = .ok (.ireturn, 1) := by decide +kernel
theorem dX10_lays_59 : decode cX10_lays 59 = .ok (.iload_n 2, 1) := by decide +kernel
theorem dX10_lays_60 : decode cX10_lays 60 = .ok (.ifCond .ge 5, 3) := by decide +kernel
theorem dX10_lays_63 : decode cX10_lays 63 = .ok (.iload_n 2, 1) := by decide +kernel
theorem dX10_lays_64 : decode cX10_lays 64 = .ok (.ireturn, 1) := by decide +kernel
theorem dX10_lays_65 : decode cX10_lays 65 = .ok (.aload_n 0, 1) := by decide +kernel
theorem dX10_lays_66 : decode cX10_lays 66 = .ok (.iload_n 1, 1) := by decide +kernel
theorem dX10_lays_67 : decode cX10_lays 67 = .ok (.invokevirtual 243, 3) := by decide +kernel
theorem dX10_lays_70 : decode cX10_lays 70 = .ok (.aload_n 0, 1) := by decide +kernel
theorem dX10_lays_71 : decode cX10_lays 71 = .ok (.invokevirtual 396, 3) := by decide +kernel
theorem dX10_lays_74 : decode cX10_lays 74 = .ok (.aload_n 0, 1) := by decide +kernel
theorem dX10_lays_75 : decode cX10_lays 75 = .ok (.invokevirtual 246, 3) := by decide +kernel
theorem dX10_lays_78 : decode cX10_lays 78 = .ok (.aload_n 0, 1) := by decide +kernel
theorem dX10_lays_79 : decode cX10_lays 79 = .ok (.invokevirtual 313, 3) := by decide +kernel
theorem dX10_lays_82 : decode cX10_lays 82 = .ok (.ireturn, 1) := by decide +kernel
theorem dX10_undo_0 : decode cX10_undo 0 = .ok (.aload_n 0, 1) := by decide +kernel
theorem dX10_undo_1 : decode cX10_undo 1 = .ok (.getfield 7, 3) := by decide +kernel
theorem dX10_undo_4 : decode cX10_undo 4 = .ok (.bipush 6, 2) := by decide +kernel
theorem dX10_undo_6 : decode cX10_undo 6 = .ok (.iaload, 1) := by decide +kernel
theorem dX10_undo_7 : decode cX10_undo 7 = .ok (.ifCond .ne 6, 3) := by decide +kernel
theorem dX10_undo_10 : decode cX10_undo 10 = .ok (.bipush (-2), 2) := by decide +kernel
theorem dX10_undo_12 : decode cX10_undo 12 = .ok (.ireturn, 1) := by decide +kernel
theorem dX10_undo_13 : decode cX10_undo 13 = .ok (.aload_n 0, 1) := by decide +kernel
theorem dX10_undo_14 : decode cX10_undo 14 = .ok (.getfield 7, 3) := by decide +kernel
theorem dX10_undo_17 : decode cX10_undo 17 = .ok (.bipush 7, 2) := by decide +kernel
theorem dX10_undo_19 : decode cX10_undo 19 = .ok (.iaload, 1) := by decide +kernel
theorem dX10_undo_20 : decode cX10_undo 20 = .ok (.ifCond .ne 6, 3) := by decide +kernel
theorem dX10_undo_23 : decode cX10_undo 23 = .ok (.bipush (-5), 2) := by decide +kernel
theorem dX10_undo_25 : decode cX10_undo 25 = .ok (.ireturn, 1) := by decide +kernel
theorem dX10_undo_26 : decode cX10_undo 26 = .ok (.aload_n 0, 1) := by decide +kernel
theorem dX10_undo_27 : decode cX10_undo 27 = .ok (.aload_n 0, 1) := by decide +kernel
theorem dX10_undo_28 : decode cX10_undo 28 = .ok (.getfield 7, 3) := by decide +kernel
theorem dX10_undo_31 : decode cX10_undo 31 = .ok (.bipush 7, 2) := by decide +kernel
theorem dX10_undo_33 : decode cX10_undo 33 = .ok (.iaload, 1) := by decide +kernel
theorem dX10_undo_34 : decode cX10_undo 34 = .ok (.iconst 1, 1) := by decide +kernel
theorem dX10_undo_35 : decode cX10_undo 35 = .ok (.isub, 1) := by decide +kernel
theorem dX10_undo_36 : decode cX10_undo 36 = .ok (.invokevirtual 399, 3) := by decide +kernel
theorem dX10_undo_39 : decode cX10_undo 39 = .ok (.aload_n 0, 1) := by decide +kernel
theorem dX10_undo_40 : decode cX10_undo 40 = .ok (.getfield 7, 3) := by decide +kernel
theorem dX10_undo_43 : decode cX10_undo 43 = .ok (.bipush 7, 2) := by decide +kernel
theorem dX10_undo_45 : decode cX10_undo 45 = .ok (.iaload, 1) := by decide +kernel
theorem dX10_undo_46 : decode cX10_undo 46 = .ok (.ireturn, 1) := by decide +kernel
theorem dX10_anew_0 : decode cX10_anew 0 = .ok (.aload_n 0, 1) := by decide +kernel
theorem dX10_anew_1 : decode cX10_anew 1 = .ok (.getfield 7, 3) := by decide +kernel
theorem dX10_anew_4 : decode cX10_anew 4 = .ok (.bipush 6, 2) := by decide +kernel
theorem dX10_anew_6 : decode cX10_anew 6 = .ok (.iaload, 1) := by decide +kernel
theorem dX10_anew_7 : decode cX10_anew 7 = .ok (.ifCond .ne 6, 3) := by decide +kernel
theorem dX10_anew_10 : decode cX10_anew 10 = .ok (.bipush (-2), 2) := by decide +kernel
theorem dX10_anew_12 : decode cX10_anew 12 = .ok (.ireturn, 1) := by decide +kernel
theorem dX10_anew_13 : decode cX10_anew 13 = .ok (.aload_n 0, 1) := by decide +kernel
theorem dX10_anew_14 : decode cX10_anew 14 = .ok (.getfield 7, 3) := by decide +kernel
theorem dX10_anew_17 : decode cX10_anew 17 = .ok (.bipush 7, 2) := by decide +kernel
theorem dX10_anew_19 : decode cX10_anew 19 = .ok (.iaload, 1) := by decide +kernel
theorem dX10_anew_20 : decode cX10_anew 20 = .ok (.istore_n 1, 1) := by decide +kernel
theorem dX10_anew_21 : decode cX10_anew 21 = .ok (.iload_n 1, 1) := by decide +kernel
theorem dX10_anew_22 : decode cX10_anew 22 = .ok (.ifCond .le 8, 3) := by decide +kernel
theorem dX10_anew_25 : decode cX10_anew 25 = .ok (.aload_n 0, 1) := by decide +kernel
theorem dX10_anew_26 : decode cX10_anew 26 = .ok (.iconst 0, 1) := by decide +kernel
theorem dX10_anew_27 : decode cX10_anew 27 = .ok (.invokevirtual 399, 3) := by decide +kernel
theorem dX10_anew_30 : decode cX10_anew 30 = .ok (.iload_n 1, 1) := by decide +kernel
theorem dX10_anew_31 : decode cX10_anew 31 = .ok (.ireturn, 1) := by decide +kernel
theorem dJ9_floorMod_7cf53_0 : decode cJ9_floorMod_7cf53 0 = .ok (.iload_n 0, 1) := by decide +kernel
theorem dJ9_floorMod_7cf53_1 : decode cJ9_floorMod_7cf53 1 = .ok (.iload_n 1, 1) := by decide +kernel
theorem dJ9_floorMod_7cf53_2 : decode cJ9_floorMod_7cf53 2 = .ok (.irem, 1) := by decide +kernel
theorem dJ9_floorMod_7cf53_3 : decode cJ9_floorMod_7cf53 3 = .ok (.istore_n 2, 1) := by decide +kernel
theorem dJ9_floorMod_7cf53_4 : decode cJ9_floorMod_7cf53 4 = .ok (.iload_n 0, 1) := by decide +kernel
theorem dJ9_floorMod_7cf53_5 : decode cJ9_floorMod_7cf53 5 = .ok (.iload_n 1, 1) := by decide +kernel
theorem dJ9_floorMod_7cf53_6 : decode cJ9_floorMod_7cf53 6 = .ok (.ixor, 1) := by decide +kernel
theorem dJ9_floorMod_7cf53_7 : decode cJ9_floorMod_7cf53 7 = .ok (.ifCond .ge 11, 3) := by decide +kernel
theorem dJ9_floorMod_7cf53_10 : decode cJ9_floorMod_7cf53 10 = .ok (.iload_n 2, 1) := by decide +kernel
theorem dJ9_floorMod_7cf53_11 : decode cJ9_floorMod_7cf53 11 = .ok (.ifCond .eq 7, 3) := by decide +kernel
theorem dJ9_floorMod_7cf53_14 : decode cJ9_floorMod_7cf53 14 = .ok (.iload_n 2, 1) := by decide +kernel
theorem dJ9_floorMod_7cf53_15 : decode cJ9_floorMod_7cf53 15 = .ok (.iload_n 1, 1) := by decide +kernel
theorem dJ9_floorMod_7cf53_16 : decode cJ9_floorMod_7cf53 16 = .ok (.iadd, 1) := by decide +kernel
theorem dJ9_floorMod_7cf53_17 : decode cJ9_floorMod_7cf53 17 = .ok (.ireturn, 1) := by decide +kernel
theorem dJ9_floorMod_7cf53_18 : decode cJ9_floorMod_7cf53 18 = .ok (.iload_n 2, 1) := by decide +kernel
theorem dJ9_floorMod_7cf53_19 : decode cJ9_floorMod_7cf53 19 = .ok (.ireturn, 1) := by decide +kernel
theorem dJ9_max_7cf53_0 : decode cJ9_max_7cf53 0 = .ok (.iload_n 0, 1) := by decide +kernel
theorem dJ9_max_7cf53_1 : decode cJ9_max_7cf53 1 = .ok (.iload_n 1, 1) := by decide +kernel
theorem dJ9_max_7cf53_2 : decode cJ9_max_7cf53 2 = .ok (.if_icmp .lt 7, 3) := by decide +kernel
theorem dJ9_max_7cf53_5 : decode cJ9_max_7cf53 5 = .ok (.iload_n 0, 1) := by decide +kernel
theorem dJ9_max_7cf53_6 : decode cJ9_max_7cf53 6 = .ok (.goto 4, 3) := by decide +kernel
theorem dJ9_max_7cf53_9 : decode cJ9_max_7cf53 9 = .ok (.iload_n 1, 1) := by decide +kernel
theorem dJ9_max_7cf53_10 : decode cJ9_max_7cf53 10 = .ok (.ireturn, 1) := by decide +kernel
theorem dJ9_min_7cf53_0 : decode cJ9_min_7cf53 0 = .ok (.iload_n 0, 1) := by decide +kernel
theorem dJ9_min_7cf53_1 : decode cJ9_min_7cf53 1 = .ok (.iload_n 1, 1) := by decide +kernel
theorem dJ9_min_7cf53_2 : decode cJ9_min_7cf53 2 = .ok (.if_icmp .gt 7, 3) := by decide +kernel
theorem dJ9_min_7cf53_5 : decode cJ9_min_7cf53 5 = .ok (.iload_n 0, 1) := by decide +kernel
theorem dJ9_min_7cf53_6 : decode cJ9_min_7cf53 6 = .ok (.goto 4, 3) := by decide +kernel
theorem dJ9_min_7cf53_9 : decode cJ9_min_7cf53 9 = .ok (.iload_n 1, 1) := by decide +kernel
theorem dJ9_min_7cf53_10 : decode cJ9_min_7cf53 10 = .ok (.ireturn, 1) := by decide +kernel
theorem dJ0_length_8abf5_0 : decode cJ0_length_8abf5 0 = .ok (.aload_n 0, 1) := by decide +kernel
theorem dJ0_length_8abf5_1 : decode cJ0_length_8abf5 1 = .ok (.getfield 9, 3) := by decide +kernel
theorem dJ0_length_8abf5_4 : decode cJ0_length_8abf5 4 = .ok (.arraylength, 1) := by decide +kernel
theorem dJ0_length_8abf5_5 : decode cJ0_length_8abf5 5 = .ok (.aload_n 0, 1) := by decide +kernel
theorem dJ0_length_8abf5_6 : decode cJ0_length_8abf5 6 = .ok (.invokevirtual 335, 3) := by decide +kernel
theorem dJ0_length_8abf5_9 : decode cJ0_length_8abf5 9 = .ok (.ishr, 1) := by decide +kernel
theorem dJ0_length_8abf5_10 : decode cJ0_length_8abf5 10 = .ok (.ireturn, 1) := by decide +kernel
theorem dJ0_charAt_5068e_0 : decode cJ0_charAt_5068e 0 = .ok (.aload_n 0, 1) := by decide +kernel
theorem dJ0_charAt_5068e_1 : decode cJ0_charAt_5068e 1 = .ok (.invokevirtual 492, 3) := by decide +kernel
theorem dJ0_charAt_5068e_4 : decode cJ0_charAt_5068e 4 = .ok (.ifCond .eq 12, 3) := by decide +kernel
theorem dJ0_charAt_5068e_7 : decode cJ0_charAt_5068e 7 = .ok (.aload_n 0, 1) := by decide +kernel
theorem dJ0_charAt_5068e_8 : decode cJ0_charAt_5068e 8 = .ok (.getfield 9, 3) := by decide +kernel
theorem dJ0_charAt_5068e_11 : decode cJ0_charAt_5068e 11 = .ok (.iload_n 1, 1) := by decide +kernel
theorem dJ0_charAt_5068e_12 : decode cJ0_charAt_5068e 12 = .ok (.invokestatic 495, 3) := by decide +kernel
theorem dJ0_charAt_5068e_15 : decode cJ0_charAt_5068e 15 = .ok (.ireturn, 1) := by decide +kernel
theorem dJ0_charAt_5068e_16 : decode cJ0_charAt_5068e 16 = .ok (.aload_n 0, 1) := by decide +kernel
theorem dJ0_charAt_5068e_17 : decode cJ0_charAt_5068e 17 = .ok (.getfield 9, 3) := by decide +kernel
theorem dJ0_charAt_5068e_20 : decode cJ0_charAt_5068e 20 = .ok (.iload_n 1, 1) := by decide +kernel
theorem dJ0_charAt_5068e_21 : decode cJ0_charAt_5068e 21 = .ok (.invokestatic 498, 3) := by decide +kernel
theorem dJ0_charAt_5068e_24 : decode cJ0_charAt_5068e 24 = .ok (.ireturn, 1) := by decide +kernel
theorem dJ0_coder_7d493_0 : decode cJ0_coder_7d493 0 = .ok (.getstatic 38, 3) := by decide +kernel
theorem dJ0_coder_7d493_3 : decode cJ0_coder_7d493 3 = .ok (.ifCond .eq 10, 3) := by decide +kernel
theorem dJ0_coder_7d493_6 : decode cJ0_coder_7d493 6 = .ok (.aload_n 0, 1) := by decide +kernel
theorem dJ0_coder_7d493_7 : decode cJ0_coder_7d493 7 = .ok (.getfield 15, 3) := by decide +kernel
theorem dJ0_coder_7d493_10 : decode cJ0_coder_7d493 10 = .ok (.goto 4, 3) := by decide +kernel
theorem dJ0_coder_7d493_13 : decode cJ0_coder_7d493 13 = .ok (.iconst 1, 1) := by decide +kernel
theorem dJ0_coder_7d493_14 : decode cJ0_coder_7d493 14 = .ok (.ireturn, 1) := by decide +kernel
theorem dJ0_isLatin1_aae02_0 : decode cJ0_isLatin1_aae02 0 = .ok (.getstatic 38, 3) := by decide +kernel
theorem dJ0_isLatin1_aae02_3 : decode cJ0_isLatin1_aae02 3 = .ok (.ifCond .eq 14, 3) := by decide +kernel
theorem dJ0_isLatin1_aae02_6 : decode cJ0_isLatin1_aae02 6 = .ok (.aload_n 0, 1) := by decide +kernel
theorem dJ0_isLatin1_aae02_7 : decode cJ0_isLatin1_aae02 7 = .ok (.getfield 15, 3) := by decide +kernel
theorem dJ0_isLatin1_aae02_10 : decode cJ0_isLatin1_aae02 10 = .ok (.ifCond .ne 7, 3) := by decide +kernel
theorem dJ0_isLatin1_aae02_13 : decode cJ0_isLatin1_aae02 13 = .ok (.iconst 1, 1) := by decide +kernel
theorem dJ0_isLatin1_aae02_14 : decode cJ0_isLatin1_aae02 14 = .ok (.goto 4, 3) := by decide +kernel
theorem dJ0_isLatin1_aae02_17 : decode cJ0_isLatin1_aae02 17 = .ok (.iconst 0, 1) := by decide +kernel
theorem dJ0_isLatin1_aae02_18 : decode cJ0_isLatin1_aae02 18 = .ok (.ireturn, 1) := by decide +kernel
theorem dJ0_checkIndex_df160_0 : decode cJ0_checkIndex_df160 0 = .ok (.iload_n 0, 1) := by decide +kernel
theorem dJ0_checkIndex_df160_1 : decode cJ0_checkIndex_df160 1 = .ok (.iload_n 1, 1) := by decide +kernel
theorem dJ0_checkIndex_df160_2 : decode cJ0_checkIndex_df160 2 = .ok (.getstatic 1053, 3) := by decide +kernel
theorem dJ0_checkIndex_df160_5 : decode cJ0_checkIndex_df160 5 = .ok (.invokestatic 1059, 3) := by decide +kernel
theorem dJ0_checkIndex_df160_8 : decode cJ0_checkIndex_df160 8 = .ok (.pop, 1) := by decide +kernel
theorem dJ0_checkIndex_df160_9 : decode cJ0_checkIndex_df160 9 = .ok (.return_, 1) := by decide +kernel
theorem dJ1_charAt_3b067_0 : decode cJ1_charAt_3b067 0 = .ok (.iload_n 1, 1) := by decide +kernel
theorem dJ1_charAt_3b067_1 : decode cJ1_charAt_3b067 1 = .ok (.aload_n 0, 1) := by decide +kernel
theorem dJ1_charAt_3b067_2 : decode cJ1_charAt_3b067 2 = .ok (.arraylength, 1) := by decide +kernel
theorem dJ1_charAt_3b067_3 : decode cJ1_charAt_3b067 3 = .ok (.invokestatic 9, 3) := by decide +kernel
theorem dJ1_charAt_3b067_6 : decode cJ1_charAt_3b067 6 = .ok (.aload_n 0, 1) := by decide +kernel
theorem dJ1_charAt_3b067_7 : decode cJ1_charAt_3b067 7 = .ok (.iload_n 1, 1) := by decide +kernel
theorem dJ1_charAt_3b067_8 : decode cJ1_charAt_3b067 8 = .ok (.baload, 1) := by decide +kernel
theorem dJ1_charAt_3b067_9 : decode cJ1_charAt_3b067 9 = .ok (.sipush 255, 3) := by decide +kernel
theorem dJ1_charAt_3b067_12 : decode cJ1_charAt_3b067 12 = .ok (.iand, 1) := by decide +kernel
theorem dJ1_charAt_3b067_13 : decode cJ1_charAt_3b067 13 = .ok (.i2c, 1) := by decide +kernel
theorem dJ1_charAt_3b067_14 : decode cJ1_charAt_3b067 14 = .ok (.ireturn, 1) := by decide +kernel
theorem dJ2_getChar_3b067_0 : decode cJ2_getChar_3b067 0 = .ok (.getstatic 44, 3) := by decide +kernel
theorem dJ2_getChar_3b067_3 : decode cJ2_getChar_3b067 3 = .ok (.ifCond .ne 25, 3) := by decide +kernel
theorem dJ2_getChar_3b067_6 : decode cJ2_getChar_3b067 6 = .ok (.iload_n 1, 1) := by decide +kernel
theorem dJ2_getChar_3b067_7 : decode cJ2_getChar_3b067 7 = .ok (.ifCond .lt 11, 3) := by decide +kernel
theorem dJ2_getChar_3b067_10 : decode cJ2_getChar_3b067 10 = .ok (.iload_n 1, 1) := by decide +kernel
theorem dJ2_getChar_3b067_11 : decode cJ2_getChar_3b067 11 = .ok (.aload_n 0, 1) := by decide +kernel
theorem dJ2_getChar_3b067_12 : decode cJ2_getChar_3b067 12 = .ok (.invokestatic 48, 3) := by decide +kernel
theorem dJ2_getChar_3b067_15 : decode cJ2_getChar_3b067 15 = .ok (.if_icmp .lt 13, 3) := by decide +kernel
theorem dJ2_getChar_3b067_18 : decode cJ2_getChar_3b067 18 = .ok (.new 52, 3) := by decide +kernel
theorem dJ2_getChar_3b067_21 : decode cJ2_getChar_3b067 21 = .ok (.dup, 1) := by decide +kernel
theorem dJ2_getChar_3b067_22 : decode cJ2_getChar_3b067 22 = .ok (.ldc 54, 2) := by decide +kernel
theorem dJ2_getChar_3b067_24 : decode cJ2_getChar_3b067 24 = .ok (.invokespecial 56, 3) := by decide +kernel
theorem dJ2_getChar_3b067_27 : decode cJ2_getChar_3b067 27 = .ok (.athrow, 1) := by decide +kernel
theorem dJ2_getChar_3b067_28 : decode cJ2_getChar_3b067 28 = .ok (.iload_n 1, 1) := by decide +kernel
theorem dJ2_getChar_3b067_29 : decode cJ2_getChar_3b067 29 = .ok (.iconst 1, 1) := by decide +kernel
theorem dJ2_getChar_3b067_30 : decode cJ2_getChar_3b067 30 = .ok (.ishl, 1) := by decide +kernel
theorem dJ2_getChar_3b067_31 : decode cJ2_getChar_3b067 31 = .ok (.istore_n 1, 1) := by decide +kernel
theorem dJ2_getChar_3b067_32 : decode cJ2_getChar_3b067 32 = .ok (.aload_n 0, 1) := by decide +kernel
theorem dJ2_getChar_3b067_33 : decode cJ2_getChar_3b067 33 = .ok (.iload_n 1, 1) := by decide +kernel
theorem dJ2_getChar_3b067_34 : decode cJ2_getChar_3b067 34 = .ok (.iinc 1 1, 3) := by decide +kernel
theorem dJ2_getChar_3b067_37 : decode cJ2_getChar_3b067 37 = .ok (.baload, 1) := by decide +kernel
theorem dJ2_getChar_3b067_38 : decode cJ2_getChar_3b067 38 = .ok (.sipush 255, 3) := by decide +kernel
theorem dJ2_getChar_3b067_41 : decode cJ2_getChar_3b067 41 = .ok (.iand, 1) := by decide +kernel
theorem dJ2_getChar_3b067_42 : decode cJ2_getChar_3b067 42 = .ok (.getstatic 59, 3) := by decide +kernel
theorem dJ2_getChar_3b067_45 : decode cJ2_getChar_3b067 45 = .ok (.ishl, 1) := by decide +kernel
theorem dJ2_getChar_3b067_46 : decode cJ2_getChar_3b067 46 = .ok (.aload_n 0, 1) := by decide +kernel
theorem dJ2_getChar_3b067_47 : decode cJ2_getChar_3b067 47 = .ok (.iload_n 1, 1) := by decide +kernel
theorem dJ2_getChar_3b067_48 : decode cJ2_getChar_3b067 48 = .ok (.baload, 1) := by decide +kernel
theorem dJ2_getChar_3b067_49 : decode cJ2_getChar_3b067 49 = .ok (.sipush 255, 3) := by decide +kernel
theorem dJ2_getChar_3b067_52 : decode cJ2_getChar_3b067 52 = .ok (.iand, 1) := by decide +kernel
theorem dJ2_getChar_3b067_53 : decode cJ2_getChar_3b067 53 = .ok (.getstatic 63, 3) := by decide +kernel
theorem dJ2_getChar_3b067_56 : decode cJ2_getChar_3b067 56 = .ok (.ishl, 1) := by decide +kernel
theorem dJ2_getChar_3b067_57 : decode cJ2_getChar_3b067 57 = .ok (.ior, 1) := by decide +kernel
theorem dJ2_getChar_3b067_58 : decode cJ2_getChar_3b067 58 = .ok (.i2c, 1) := by decide +kernel
theorem dJ2_getChar_3b067_59 : decode cJ2_getChar_3b067 59 = .ok (.ireturn, 1) := by decide +kernel
theorem dJ2_length_9d52b_0 : decode cJ2_length_9d52b 0 = .ok (.aload_n 0, 1) := by decide +kernel
theorem dJ2_length_9d52b_1 : decode cJ2_length_9d52b 1 = .ok (.arraylength, 1) := by decide +kernel
theorem dJ2_length_9d52b_2 : decode cJ2_length_9d52b 2 = .ok (.iconst 1, 1) := by decide +kernel
theorem dJ2_length_9d52b_3 : decode cJ2_length_9d52b 3 = .ok (.ishr, 1) := by decide +kernel
theorem dJ2_length_9d52b_4 : decode cJ2_length_9d52b 4 = .ok (.ireturn, 1) := by decide +kernel
theorem dJ2_charAt_3b067_0 : decode cJ2_charAt_3b067 0 = .ok (.iload_n 1, 1) := by decide +kernel
theorem dJ2_charAt_3b067_1 : decode cJ2_charAt_3b067 1 = .ok (.aload_n 0, 1) := by decide +kernel
theorem dJ2_charAt_3b067_2 : decode cJ2_charAt_3b067 2 = .ok (.invokestatic 67, 3) := by decide +kernel
theorem dJ2_charAt_3b067_5 : decode cJ2_charAt_3b067 5 = .ok (.aload_n 0, 1) := by decide +kernel
theorem dJ2_charAt_3b067_6 : decode cJ2_charAt_3b067 6 = .ok (.iload_n 1, 1) := by decide +kernel
theorem dJ2_charAt_3b067_7 : decode cJ2_charAt_3b067 7 = .ok (.invokestatic 71, 3) := by decide +kernel
theorem dJ2_charAt_3b067_10 : decode cJ2_charAt_3b067 10 = .ok (.ireturn, 1) := by decide +kernel
theorem dJ2_checkIndex_2214a_0 : decode cJ2_checkIndex_2214a 0 = .ok (.iload_n 0, 1) := by decide +kernel
theorem dJ2_checkIndex_2214a_1 : decode cJ2_checkIndex_2214a 1 = .ok (.aload_n 1, 1) := by decide +kernel
theorem dJ2_checkIndex_2214a_2 : decode cJ2_checkIndex_2214a 2 = .ok (.invokestatic 48, 3) := by decide +kernel
theorem dJ2_checkIndex_2214a_5 : decode cJ2_checkIndex_2214a 5 = .ok (.invokestatic 414, 3) := by decide +kernel
theorem dJ2_checkIndex_2214a_8 : decode cJ2_checkIndex_2214a 8 = .ok (.return_, 1) := by decide +kernel
theorem dJ3_checkIndex_8e157_0 : decode cJ3_checkIndex_8e157 0 = .ok (.iload_n 0, 1) := by decide +kernel
theorem dJ3_checkIndex_8e157_1 : decode cJ3_checkIndex_8e157 1 = .ok (.ifCond .lt 8, 3) := by decide +kernel
theorem dJ3_checkIndex_8e157_4 : decode cJ3_checkIndex_8e157 4 = .ok (.iload_n 0, 1) := by decide +kernel
theorem dJ3_checkIndex_8e157_5 : decode cJ3_checkIndex_8e157 5 = .ok (.iload_n 1, 1) := by decide +kernel
theorem dJ3_checkIndex_8e157_6 : decode cJ3_checkIndex_8e157 6 = .ok (.if_icmp .lt 10, 3) := by decide +kernel
theorem dJ3_checkIndex_8e157_9 : decode cJ3_checkIndex_8e157 9 = .ok (.aload_n 2, 1) := by decide +kernel
theorem dJ3_checkIndex_8e157_10 : decode cJ3_checkIndex_8e157 10 = .ok (.iload_n 0, 1) := by decide +kernel
theorem dJ3_checkIndex_8e157_11 : decode cJ3_checkIndex_8e157 11 = .ok (.iload_n 1, 1) := by decide +kernel
theorem dJ3_checkIndex_8e157_12 : decode cJ3_checkIndex_8e157 12 = .ok (.invokestatic 95, 3) := by decide +kernel
theorem dJ3_checkIndex_8e157_15 : decode cJ3_checkIndex_8e157 15 = .ok (.athrow, 1) := by decide +kernel
theorem dJ3_checkIndex_8e157_16 : decode cJ3_checkIndex_8e157 16 = .ok (.iload_n 0, 1) := by decide +kernel
theorem dJ3_checkIndex_8e157_17 : decode cJ3_checkIndex_8e157 17 = .ok (.ireturn, 1) := by decide +kernel
theorem dL_law_0 : decode cL_law 0 = .ok (.new 7, 3) := by decide +kernel
theorem dL_law_3 : decode cL_law 3 = .ok (.dup, 1) := by decide +kernel
theorem dL_law_4 : decode cL_law 4 = .ok (.invokespecial 9, 3) := by decide +kernel
theorem dL_law_7 : decode cL_law 7 = .ok (.astore_n 1, 1) := by decide +kernel
theorem dL_law_8 : decode cL_law 8 = .ok (.new 10, 3) := by decide +kernel
theorem dL_law_11 : decode cL_law 11 = .ok (.dup, 1) := by decide +kernel
theorem dL_law_12 : decode cL_law 12 = .ok (.invokespecial 12, 3) := by decide +kernel
theorem dL_law_15 : decode cL_law 15 = .ok (.astore_n 2, 1) := by decide +kernel
theorem dL_law_16 : decode cL_law 16 = .ok (.iconst 0, 1) := by decide +kernel
theorem dL_law_17 : decode cL_law 17 = .ok (.istore_n 3, 1) := by decide +kernel
theorem dL_law_18 : decode cL_law 18 = .ok (.iload_n 3, 1) := by decide +kernel
theorem dL_law_19 : decode cL_law 19 = .ok (.aload_n 0, 1) := by decide +kernel
theorem dL_law_20 : decode cL_law 20 = .ok (.arraylength, 1) := by decide +kernel
theorem dL_law_21 : decode cL_law 21 = .ok (.bipush 6, 2) := by decide +kernel
theorem dL_law_23 : decode cL_law 23 = .ok (.isub, 1) := by decide +kernel
theorem dL_law_24 : decode cL_law 24 = .ok (.if_icmp .gt 926, 3) := by decide +kernel
theorem dL_law_27 : decode cL_law 27 = .ok (.aload_n 0, 1) := by decide +kernel
theorem dL_law_28 : decode cL_law 28 = .ok (.iload_n 3, 1) := by decide +kernel
theorem dL_law_29 : decode cL_law 29 = .ok (.iaload, 1) := by decide +kernel
theorem dL_law_30 : decode cL_law 30 = .ok (.bipush 63, 2) := by decide +kernel
theorem dL_law_32 : decode cL_law 32 = .ok (.iand, 1) := by decide +kernel
theorem dL_law_33 : decode cL_law 33 = .ok (.tableswitch 911 0 34 #[155, 218, 241, 254, 277, 300, 333, 356, 369, 382, 395, 418, 451, 464, 477, 490, 513, 526, 549, 562, 585, 608, 641, 674, 687, 700, 713, 736, 769, 783, 796, 829, 862, 885, 898], 155) := by decide +kernel
theorem dL_law_188 : decode cL_law 188 = .ok (.aload_n 1, 1) := by decide +kernel
theorem dL_law_189 : decode cL_law 189 = .ok (.aload_n 0, 1) := by decide +kernel
theorem dL_law_190 : decode cL_law 190 = .ok (.iload_n 3, 1) := by decide +kernel
theorem dL_law_191 : decode cL_law 191 = .ok (.iconst 1, 1) := by decide +kernel
theorem dL_law_192 : decode cL_law 192 = .ok (.iadd, 1) := by decide +kernel
theorem dL_law_193 : decode cL_law 193 = .ok (.iaload, 1) := by decide +kernel
theorem dL_law_194 : decode cL_law 194 = .ok (.aload_n 0, 1) := by decide +kernel
theorem dL_law_195 : decode cL_law 195 = .ok (.iload_n 3, 1) := by decide +kernel
theorem dL_law_196 : decode cL_law 196 = .ok (.iconst 2, 1) := by decide +kernel
theorem dL_law_197 : decode cL_law 197 = .ok (.iadd, 1) := by decide +kernel
theorem dL_law_198 : decode cL_law 198 = .ok (.iaload, 1) := by decide +kernel
theorem dL_law_199 : decode cL_law 199 = .ok (.aload_n 0, 1) := by decide +kernel
theorem dL_law_200 : decode cL_law 200 = .ok (.iload_n 3, 1) := by decide +kernel
theorem dL_law_201 : decode cL_law 201 = .ok (.iconst 3, 1) := by decide +kernel
theorem dL_law_202 : decode cL_law 202 = .ok (.iadd, 1) := by decide +kernel
theorem dL_law_203 : decode cL_law 203 = .ok (.iaload, 1) := by decide +kernel
theorem dL_law_204 : decode cL_law 204 = .ok (.aload_n 0, 1) := by decide +kernel
theorem dL_law_205 : decode cL_law 205 = .ok (.iload_n 3, 1) := by decide +kernel
theorem dL_law_206 : decode cL_law 206 = .ok (.iconst 4, 1) := by decide +kernel
theorem dL_law_207 : decode cL_law 207 = .ok (.iadd, 1) := by decide +kernel
theorem dL_law_208 : decode cL_law 208 = .ok (.iaload, 1) := by decide +kernel
theorem dL_law_209 : decode cL_law 209 = .ok (.aload_n 0, 1) := by decide +kernel
theorem dL_law_210 : decode cL_law 210 = .ok (.iload_n 3, 1) := by decide +kernel
theorem dL_law_211 : decode cL_law 211 = .ok (.iconst 5, 1) := by decide +kernel
theorem dL_law_212 : decode cL_law 212 = .ok (.iadd, 1) := by decide +kernel
theorem dL_law_213 : decode cL_law 213 = .ok (.iaload, 1) := by decide +kernel
theorem dL_law_214 : decode cL_law 214 = .ok (.invokevirtual 13, 3) := by decide +kernel
theorem dL_law_217 : decode cL_law 217 = .ok (.aload_n 2, 1) := by decide +kernel
theorem dL_law_218 : decode cL_law 218 = .ok (.aload_n 0, 1) := by decide +kernel
theorem dL_law_219 : decode cL_law 219 = .ok (.iload_n 3, 1) := by decide +kernel
theorem dL_law_220 : decode cL_law 220 = .ok (.iconst 1, 1) := by decide +kernel
theorem dL_law_221 : decode cL_law 221 = .ok (.iadd, 1) := by decide +kernel
theorem dL_law_222 : decode cL_law 222 = .ok (.iaload, 1) := by decide +kernel
theorem dL_law_223 : decode cL_law 223 = .ok (.aload_n 0, 1) := by decide +kernel
theorem dL_law_224 : decode cL_law 224 = .ok (.iload_n 3, 1) := by decide +kernel
theorem dL_law_225 : decode cL_law 225 = .ok (.iconst 2, 1) := by decide +kernel
theorem dL_law_226 : decode cL_law 226 = .ok (.iadd, 1) := by decide +kernel
theorem dL_law_227 : decode cL_law 227 = .ok (.iaload, 1) := by decide +kernel
theorem dL_law_228 : decode cL_law 228 = .ok (.aload_n 0, 1) := by decide +kernel
theorem dL_law_229 : decode cL_law 229 = .ok (.iload_n 3, 1) := by decide +kernel
theorem dL_law_230 : decode cL_law 230 = .ok (.iconst 3, 1) := by decide +kernel
theorem dL_law_231 : decode cL_law 231 = .ok (.iadd, 1) := by decide +kernel
theorem dL_law_232 : decode cL_law 232 = .ok (.iaload, 1) := by decide +kernel
theorem dL_law_233 : decode cL_law 233 = .ok (.aload_n 0, 1) := by decide +kernel
theorem dL_law_234 : decode cL_law 234 = .ok (.iload_n 3, 1) := by decide +kernel
theorem dL_law_235 : decode cL_law 235 = .ok (.iconst 4, 1) := by decide +kernel
theorem dL_law_236 : decode cL_law 236 = .ok (.iadd, 1) := by decide +kernel
theorem dL_law_237 : decode cL_law 237 = .ok (.iaload, 1) := by decide +kernel
theorem dL_law_238 : decode cL_law 238 = .ok (.aload_n 0, 1) := by decide +kernel
theorem dL_law_239 : decode cL_law 239 = .ok (.iload_n 3, 1) := by decide +kernel
theorem dL_law_240 : decode cL_law 240 = .ok (.iconst 5, 1) := by decide +kernel
theorem dL_law_241 : decode cL_law 241 = .ok (.iadd, 1) := by decide +kernel
theorem dL_law_242 : decode cL_law 242 = .ok (.iaload, 1) := by decide +kernel
theorem dL_law_243 : decode cL_law 243 = .ok (.invokevirtual 17, 3) := by decide +kernel
theorem dL_law_246 : decode cL_law 246 = .ok (.if_icmp .eq 698, 3) := by decide +kernel
theorem dL_law_249 : decode cL_law 249 = .ok (.iconst 0, 1) := by decide +kernel
theorem dL_law_250 : decode cL_law 250 = .ok (.ireturn, 1) := by decide +kernel
theorem dL_law_251 : decode cL_law 251 = .ok (.aload_n 1, 1) := by decide +kernel
theorem dL_law_252 : decode cL_law 252 = .ok (.aload_n 0, 1) := by decide +kernel
theorem dL_law_253 : decode cL_law 253 = .ok (.iload_n 3, 1) := by decide +kernel
theorem dL_law_254 : decode cL_law 254 = .ok (.iconst 1, 1) := by decide +kernel
theorem dL_law_255 : decode cL_law 255 = .ok (.iadd, 1) := by decide +kernel
theorem dL_law_256 : decode cL_law 256 = .ok (.iaload, 1) := by decide +kernel
theorem dL_law_257 : decode cL_law 257 = .ok (.invokevirtual 18, 3) := by decide +kernel
theorem dL_law_260 : decode cL_law 260 = .ok (.aload_n 2, 1) := by decide +kernel
theorem dL_law_261 : decode cL_law 261 = .ok (.aload_n 0, 1) := by decide +kernel
theorem dL_law_262 : decode cL_law 262 = .ok (.iload_n 3, 1) := by decide +kernel
theorem dL_law_263 : decode cL_law 263 = .ok (.iconst 1, 1) := by decide +kernel
theorem dL_law_264 : decode cL_law 264 = .ok (.iadd, 1) := by decide +kernel
theorem dL_law_265 : decode cL_law 265 = .ok (.iaload, 1) := by decide +kernel
theorem dL_law_266 : decode cL_law 266 = .ok (.invokevirtual 22, 3) := by decide +kernel
theorem dL_law_269 : decode cL_law 269 = .ok (.if_icmp .eq 675, 3) := by decide +kernel
theorem dL_law_272 : decode cL_law 272 = .ok (.iconst 0, 1) := by decide +kernel
theorem dL_law_273 : decode cL_law 273 = .ok (.ireturn, 1) := by decide +kernel
theorem dL_law_274 : decode cL_law 274 = .ok (.aload_n 1, 1) := by decide +kernel
theorem dL_law_275 : decode cL_law 275 = .ok (.invokevirtual 23, 3) := by decide +kernel
theorem dL_law_278 : decode cL_law 278 = .ok (.aload_n 2, 1) := by decide +kernel
theorem dL_law_279 : decode cL_law 279 = .ok (.invokevirtual 27, 3) := by decide +kernel
theorem dL_law_282 : decode cL_law 282 = .ok (.if_icmp .eq 662, 3) := by decide +kernel
theorem dL_law_285 : decode cL_law 285 = .ok (.iconst 0, 1) := by decide +kernel
theorem dL_law_286 : decode cL_law 286 = .ok (.ireturn, 1) := by decide +kernel
theorem dL_law_287 : decode cL_law 287 = .ok (.aload_n 1, 1) := by decide +kernel
theorem dL_law_288 : decode cL_law 288 = .ok (.aload_n 0, 1) := by decide +kernel
theorem dL_law_289 : decode cL_law 289 = .ok (.iload_n 3, 1) := by decide +kernel
theorem dL_law_290 : decode cL_law 290 = .ok (.iconst 1, 1) := by decide +kernel
theorem dL_law_291 : decode cL_law 291 = .ok (.iadd, 1) := by decide +kernel
theorem dL_law_292 : decode cL_law 292 = .ok (.iaload, 1) := by decide +kernel
theorem dL_law_293 : decode cL_law 293 = .ok (.invokevirtual 28, 3) := by decide +kernel
theorem dL_law_296 : decode cL_law 296 = .ok (.aload_n 2, 1) := by decide +kernel
theorem dL_law_297 : decode cL_law 297 = .ok (.aload_n 0, 1) := by decide +kernel
theorem dL_law_298 : decode cL_law 298 = .ok (.iload_n 3, 1) := by decide +kernel
theorem dL_law_299 : decode cL_law 299 = .ok (.iconst 1, 1) := by decide +kernel
theorem dL_law_300 : decode cL_law 300 = .ok (.iadd, 1) := by decide +kernel
theorem dL_law_301 : decode cL_law 301 = .ok (.iaload, 1) := by decide +kernel
theorem dL_law_302 : decode cL_law 302 = .ok (.invokevirtual 31, 3) := by decide +kernel
theorem dL_law_305 : decode cL_law 305 = .ok (.if_icmp .eq 639, 3) := by decide +kernel
theorem dL_law_308 : decode cL_law 308 = .ok (.iconst 0, 1) := by decide +kernel
theorem dL_law_309 : decode cL_law 309 = .ok (.ireturn, 1) := by decide +kernel
theorem dL_law_310 : decode cL_law 310 = .ok (.aload_n 1, 1) := by decide +kernel
theorem dL_law_311 : decode cL_law 311 = .ok (.aload_n 0, 1) := by decide +kernel
theorem dL_law_312 : decode cL_law 312 = .ok (.iload_n 3, 1) := by decide +kernel
theorem dL_law_313 : decode cL_law 313 = .ok (.iconst 1, 1) := by decide +kernel
theorem dL_law_314 : decode cL_law 314 = .ok (.iadd, 1) := by decide +kernel
theorem dL_law_315 : decode cL_law 315 = .ok (.iaload, 1) := by decide +kernel
theorem dL_law_316 : decode cL_law 316 = .ok (.invokevirtual 32, 3) := by decide +kernel
theorem dL_law_319 : decode cL_law 319 = .ok (.aload_n 2, 1) := by decide +kernel
theorem dL_law_320 : decode cL_law 320 = .ok (.aload_n 0, 1) := by decide +kernel
theorem dL_law_321 : decode cL_law 321 = .ok (.iload_n 3, 1) := by decide +kernel
theorem dL_law_322 : decode cL_law 322 = .ok (.iconst 1, 1) := by decide +kernel
theorem dL_law_323 : decode cL_law 323 = .ok (.iadd, 1) := by decide +kernel
theorem dL_law_324 : decode cL_law 324 = .ok (.iaload, 1) := by decide +kernel
theorem dL_law_325 : decode cL_law 325 = .ok (.invokevirtual 35, 3) := by decide +kernel
theorem dL_law_328 : decode cL_law 328 = .ok (.if_icmp .eq 616, 3) := by decide +kernel
theorem dL_law_331 : decode cL_law 331 = .ok (.iconst 0, 1) := by decide +kernel
theorem dL_law_332 : decode cL_law 332 = .ok (.ireturn, 1) := by decide +kernel
theorem dL_law_333 : decode cL_law 333 = .ok (.aload_n 1, 1) := by decide +kernel
theorem dL_law_334 : decode cL_law 334 = .ok (.aload_n 0, 1) := by decide +kernel
theorem dL_law_335 : decode cL_law 335 = .ok (.iload_n 3, 1) := by decide +kernel
theorem dL_law_336 : decode cL_law 336 = .ok (.iconst 1, 1) := by decide +kernel
theorem dL_law_337 : decode cL_law 337 = .ok (.iadd, 1) := by decide +kernel
theorem dL_law_338 : decode cL_law 338 = .ok (.iaload, 1) := by decide +kernel
theorem dL_law_339 : decode cL_law 339 = .ok (.aload_n 0, 1) := by decide +kernel
theorem dL_law_340 : decode cL_law 340 = .ok (.iload_n 3, 1) := by decide +kernel
theorem dL_law_341 : decode cL_law 341 = .ok (.iconst 2, 1) := by decide +kernel
theorem dL_law_342 : decode cL_law 342 = .ok (.iadd, 1) := by decide +kernel
theorem dL_law_343 : decode cL_law 343 = .ok (.iaload, 1) := by decide +kernel
theorem dL_law_344 : decode cL_law 344 = .ok (.invokevirtual 36, 3) := by decide +kernel
theorem dL_law_347 : decode cL_law 347 = .ok (.aload_n 2, 1) := by decide +kernel
theorem dL_law_348 : decode cL_law 348 = .ok (.aload_n 0, 1) := by decide +kernel
theorem dL_law_349 : decode cL_law 349 = .ok (.iload_n 3, 1) := by decide +kernel
theorem dL_law_350 : decode cL_law 350 = .ok (.iconst 1, 1) := by decide +kernel
theorem dL_law_351 : decode cL_law 351 = .ok (.iadd, 1) := by decide +kernel
theorem dL_law_352 : decode cL_law 352 = .ok (.iaload, 1) := by decide +kernel
theorem dL_law_353 : decode cL_law 353 = .ok (.aload_n 0, 1) := by decide +kernel
theorem dL_law_354 : decode cL_law 354 = .ok (.iload_n 3, 1) := by decide +kernel
theorem dL_law_355 : decode cL_law 355 = .ok (.iconst 2, 1) := by decide +kernel
theorem dL_law_356 : decode cL_law 356 = .ok (.iadd, 1) := by decide +kernel
theorem dL_law_357 : decode cL_law 357 = .ok (.iaload, 1) := by decide +kernel
theorem dL_law_358 : decode cL_law 358 = .ok (.invokevirtual 40, 3) := by decide +kernel
theorem dL_law_361 : decode cL_law 361 = .ok (.if_icmp .eq 583, 3) := by decide +kernel
theorem dL_law_364 : decode cL_law 364 = .ok (.iconst 0, 1) := by decide +kernel
theorem dL_law_365 : decode cL_law 365 = .ok (.ireturn, 1) := by decide +kernel
theorem dL_law_366 : decode cL_law 366 = .ok (.aload_n 1, 1) := by decide +kernel
theorem dL_law_367 : decode cL_law 367 = .ok (.aload_n 0, 1) := by decide +kernel
theorem dL_law_368 : decode cL_law 368 = .ok (.iload_n 3, 1) := by decide +kernel
theorem dL_law_369 : decode cL_law 369 = .ok (.iconst 1, 1) := by decide +kernel
theorem dL_law_370 : decode cL_law 370 = .ok (.iadd, 1) := by decide +kernel
theorem dL_law_371 : decode cL_law 371 = .ok (.iaload, 1) := by decide +kernel
theorem dL_law_372 : decode cL_law 372 = .ok (.invokevirtual 41, 3) := by decide +kernel
theorem dL_law_375 : decode cL_law 375 = .ok (.aload_n 2, 1) := by decide +kernel
theorem dL_law_376 : decode cL_law 376 = .ok (.aload_n 0, 1) := by decide +kernel
theorem dL_law_377 : decode cL_law 377 = .ok (.iload_n 3, 1) := by decide +kernel
theorem dL_law_378 : decode cL_law 378 = .ok (.iconst 1, 1) := by decide +kernel
theorem dL_law_379 : decode cL_law 379 = .ok (.iadd, 1) := by decide +kernel
theorem dL_law_380 : decode cL_law 380 = .ok (.iaload, 1) := by decide +kernel
theorem dL_law_381 : decode cL_law 381 = .ok (.invokevirtual 44, 3) := by decide +kernel
theorem dL_law_384 : decode cL_law 384 = .ok (.if_icmp .eq 560, 3) := by decide +kernel
theorem dL_law_387 : decode cL_law 387 = .ok (.iconst 0, 1) := by decide +kernel
theorem dL_law_388 : decode cL_law 388 = .ok (.ireturn, 1) := by decide +kernel
theorem dL_law_389 : decode cL_law 389 = .ok (.aload_n 1, 1) := by decide +kernel
theorem dL_law_390 : decode cL_law 390 = .ok (.invokevirtual 45, 3) := by decide +kernel
theorem dL_law_393 : decode cL_law 393 = .ok (.aload_n 2, 1) := by decide +kernel
theorem dL_law_394 : decode cL_law 394 = .ok (.invokevirtual 48, 3) := by decide +kernel
theorem dL_law_397 : decode cL_law 397 = .ok (.if_icmp .eq 547, 3) := by decide +kernel
theorem dL_law_400 : decode cL_law 400 = .ok (.iconst 0, 1) := by decide +kernel
theorem dL_law_401 : decode cL_law 401 = .ok (.ireturn, 1) := by decide +kernel
theorem dL_law_402 : decode cL_law 402 = .ok (.aload_n 1, 1) := by decide +kernel
theorem dL_law_403 : decode cL_law 403 = .ok (.invokevirtual 49, 3) := by decide +kernel
theorem dL_law_406 : decode cL_law 406 = .ok (.aload_n 2, 1) := by decide +kernel
theorem dL_law_407 : decode cL_law 407 = .ok (.invokevirtual 52, 3) := by decide +kernel
theorem dL_law_410 : decode cL_law 410 = .ok (.if_icmp .eq 534, 3) := by decide +kernel
theorem dL_law_413 : decode cL_law 413 = .ok (.iconst 0, 1) := by decide +kernel
theorem dL_law_414 : decode cL_law 414 = .ok (.ireturn, 1) := by decide +kernel
theorem dL_law_415 : decode cL_law 415 = .ok (.aload_n 1, 1) := by decide +kernel
theorem dL_law_416 : decode cL_law 416 = .ok (.invokevirtual 53, 3) := by decide +kernel
theorem dL_law_419 : decode cL_law 419 = .ok (.aload_n 2, 1) := by decide +kernel
theorem dL_law_420 : decode cL_law 420 = .ok (.invokevirtual 56, 3) := by decide +kernel
theorem dL_law_423 : decode cL_law 423 = .ok (.if_icmp .eq 521, 3) := by decide +kernel
theorem dL_law_426 : decode cL_law 426 = .ok (.iconst 0, 1) := by decide +kernel
theorem dL_law_427 : decode cL_law 427 = .ok (.ireturn, 1) := by decide +kernel
theorem dL_law_428 : decode cL_law 428 = .ok (.aload_n 1, 1) := by decide +kernel
theorem dL_law_429 : decode cL_law 429 = .ok (.aload_n 0, 1) := by decide +kernel
theorem dL_law_430 : decode cL_law 430 = .ok (.iload_n 3, 1) := by decide +kernel
theorem dL_law_431 : decode cL_law 431 = .ok (.iconst 1, 1) := by decide +kernel
theorem dL_law_432 : decode cL_law 432 = .ok (.iadd, 1) := by decide +kernel
theorem dL_law_433 : decode cL_law 433 = .ok (.iaload, 1) := by decide +kernel
theorem dL_law_434 : decode cL_law 434 = .ok (.invokevirtual 57, 3) := by decide +kernel
theorem dL_law_437 : decode cL_law 437 = .ok (.aload_n 2, 1) := by decide +kernel
theorem dL_law_438 : decode cL_law 438 = .ok (.aload_n 0, 1) := by decide +kernel
theorem dL_law_439 : decode cL_law 439 = .ok (.iload_n 3, 1) := by decide +kernel
theorem dL_law_440 : decode cL_law 440 = .ok (.iconst 1, 1) := by decide +kernel
theorem dL_law_441 : decode cL_law 441 = .ok (.iadd, 1) := by decide +kernel
theorem dL_law_442 : decode cL_law 442 = .ok (.iaload, 1) := by decide +kernel
theorem dL_law_443 : decode cL_law 443 = .ok (.invokevirtual 60, 3) := by decide +kernel
theorem dL_law_446 : decode cL_law 446 = .ok (.if_icmp .eq 498, 3) := by decide +kernel
theorem dL_law_449 : decode cL_law 449 = .ok (.iconst 0, 1) := by decide +kernel
theorem dL_law_450 : decode cL_law 450 = .ok (.ireturn, 1) := by decide +kernel
theorem dL_law_451 : decode cL_law 451 = .ok (.aload_n 1, 1) := by decide +kernel
theorem dL_law_452 : decode cL_law 452 = .ok (.aload_n 0, 1) := by decide +kernel
theorem dL_law_453 : decode cL_law 453 = .ok (.iload_n 3, 1) := by decide +kernel
theorem dL_law_454 : decode cL_law 454 = .ok (.iconst 1, 1) := by decide +kernel
theorem dL_law_455 : decode cL_law 455 = .ok (.iadd, 1) := by decide +kernel
theorem dL_law_456 : decode cL_law 456 = .ok (.iaload, 1) := by decide +kernel
theorem dL_law_457 : decode cL_law 457 = .ok (.aload_n 0, 1) := by decide +kernel
theorem dL_law_458 : decode cL_law 458 = .ok (.iload_n 3, 1) := by decide +kernel
theorem dL_law_459 : decode cL_law 459 = .ok (.iconst 2, 1) := by decide +kernel
theorem dL_law_460 : decode cL_law 460 = .ok (.iadd, 1) := by decide +kernel
theorem dL_law_461 : decode cL_law 461 = .ok (.iaload, 1) := by decide +kernel
theorem dL_law_462 : decode cL_law 462 = .ok (.invokevirtual 61, 3) := by decide +kernel
theorem dL_law_465 : decode cL_law 465 = .ok (.aload_n 2, 1) := by decide +kernel
theorem dL_law_466 : decode cL_law 466 = .ok (.aload_n 0, 1) := by decide +kernel
theorem dL_law_467 : decode cL_law 467 = .ok (.iload_n 3, 1) := by decide +kernel
theorem dL_law_468 : decode cL_law 468 = .ok (.iconst 1, 1) := by decide +kernel
theorem dL_law_469 : decode cL_law 469 = .ok (.iadd, 1) := by decide +kernel
theorem dL_law_470 : decode cL_law 470 = .ok (.iaload, 1) := by decide +kernel
theorem dL_law_471 : decode cL_law 471 = .ok (.aload_n 0, 1) := by decide +kernel
theorem dL_law_472 : decode cL_law 472 = .ok (.iload_n 3, 1) := by decide +kernel
theorem dL_law_473 : decode cL_law 473 = .ok (.iconst 2, 1) := by decide +kernel
theorem dL_law_474 : decode cL_law 474 = .ok (.iadd, 1) := by decide +kernel
theorem dL_law_475 : decode cL_law 475 = .ok (.iaload, 1) := by decide +kernel
theorem dL_law_476 : decode cL_law 476 = .ok (.invokevirtual 64, 3) := by decide +kernel
theorem dL_law_479 : decode cL_law 479 = .ok (.if_icmp .eq 465, 3) := by decide +kernel
theorem dL_law_482 : decode cL_law 482 = .ok (.iconst 0, 1) := by decide +kernel
theorem dL_law_483 : decode cL_law 483 = .ok (.ireturn, 1) := by decide +kernel
theorem dL_law_484 : decode cL_law 484 = .ok (.aload_n 1, 1) := by decide +kernel
theorem dL_law_485 : decode cL_law 485 = .ok (.invokevirtual 65, 3) := by decide +kernel
theorem dL_law_488 : decode cL_law 488 = .ok (.aload_n 2, 1) := by decide +kernel
theorem dL_law_489 : decode cL_law 489 = .ok (.invokevirtual 68, 3) := by decide +kernel
theorem dL_law_492 : decode cL_law 492 = .ok (.if_icmp .eq 452, 3) := by decide +kernel
theorem dL_law_495 : decode cL_law 495 = .ok (.iconst 0, 1) := by decide +kernel
theorem dL_law_496 : decode cL_law 496 = .ok (.ireturn, 1) := by decide +kernel
theorem dL_law_497 : decode cL_law 497 = .ok (.aload_n 1, 1) := by decide +kernel
theorem dL_law_498 : decode cL_law 498 = .ok (.invokevirtual 69, 3) := by decide +kernel
theorem dL_law_501 : decode cL_law 501 = .ok (.aload_n 2, 1) := by decide +kernel
theorem dL_law_502 : decode cL_law 502 = .ok (.invokevirtual 72, 3) := by decide +kernel
theorem dL_law_505 : decode cL_law 505 = .ok (.if_icmp .eq 439, 3) := by decide +kernel
theorem dL_law_508 : decode cL_law 508 = .ok (.iconst 0, 1) := by decide +kernel
theorem dL_law_509 : decode cL_law 509 = .ok (.ireturn, 1) := by decide +kernel
theorem dL_law_510 : decode cL_law 510 = .ok (.aload_n 1, 1) := by decide +kernel
theorem dL_law_511 : decode cL_law 511 = .ok (.invokevirtual 73, 3) := by decide +kernel
theorem dL_law_514 : decode cL_law 514 = .ok (.aload_n 2, 1) := by decide +kernel
theorem dL_law_515 : decode cL_law 515 = .ok (.invokevirtual 76, 3) := by decide +kernel
theorem dL_law_518 : decode cL_law 518 = .ok (.if_icmp .eq 426, 3) := by decide +kernel
theorem dL_law_521 : decode cL_law 521 = .ok (.iconst 0, 1) := by decide +kernel
theorem dL_law_522 : decode cL_law 522 = .ok (.ireturn, 1) := by decide +kernel
theorem dL_law_523 : decode cL_law 523 = .ok (.aload_n 1, 1) := by decide +kernel
theorem dL_law_524 : decode cL_law 524 = .ok (.aload_n 0, 1) := by decide +kernel
theorem dL_law_525 : decode cL_law 525 = .ok (.iload_n 3, 1) := by decide +kernel
theorem dL_law_526 : decode cL_law 526 = .ok (.iconst 1, 1) := by decide +kernel
theorem dL_law_527 : decode cL_law 527 = .ok (.iadd, 1) := by decide +kernel
theorem dL_law_528 : decode cL_law 528 = .ok (.iaload, 1) := by decide +kernel
theorem dL_law_529 : decode cL_law 529 = .ok (.invokevirtual 77, 3) := by decide +kernel
theorem dL_law_532 : decode cL_law 532 = .ok (.aload_n 2, 1) := by decide +kernel
theorem dL_law_533 : decode cL_law 533 = .ok (.aload_n 0, 1) := by decide +kernel
theorem dL_law_534 : decode cL_law 534 = .ok (.iload_n 3, 1) := by decide +kernel
theorem dL_law_535 : decode cL_law 535 = .ok (.iconst 1, 1) := by decide +kernel
theorem dL_law_536 : decode cL_law 536 = .ok (.iadd, 1) := by decide +kernel
theorem dL_law_537 : decode cL_law 537 = .ok (.iaload, 1) := by decide +kernel
theorem dL_law_538 : decode cL_law 538 = .ok (.invokevirtual 80, 3) := by decide +kernel
theorem dL_law_541 : decode cL_law 541 = .ok (.if_icmp .eq 403, 3) := by decide +kernel
theorem dL_law_544 : decode cL_law 544 = .ok (.iconst 0, 1) := by decide +kernel
theorem dL_law_545 : decode cL_law 545 = .ok (.ireturn, 1) := by decide +kernel
theorem dL_law_546 : decode cL_law 546 = .ok (.aload_n 1, 1) := by decide +kernel
theorem dL_law_547 : decode cL_law 547 = .ok (.invokevirtual 81, 3) := by decide +kernel
theorem dL_law_550 : decode cL_law 550 = .ok (.aload_n 2, 1) := by decide +kernel
theorem dL_law_551 : decode cL_law 551 = .ok (.invokevirtual 84, 3) := by decide +kernel
theorem dL_law_554 : decode cL_law 554 = .ok (.if_icmp .eq 390, 3) := by decide +kernel
theorem dL_law_557 : decode cL_law 557 = .ok (.iconst 0, 1) := by decide +kernel
theorem dL_law_558 : decode cL_law 558 = .ok (.ireturn, 1) := by decide +kernel
theorem dL_law_559 : decode cL_law 559 = .ok (.aload_n 1, 1) := by decide +kernel
theorem dL_law_560 : decode cL_law 560 = .ok (.aload_n 0, 1) := by decide +kernel
theorem dL_law_561 : decode cL_law 561 = .ok (.iload_n 3, 1) := by decide +kernel
theorem dL_law_562 : decode cL_law 562 = .ok (.iconst 1, 1) := by decide +kernel
theorem dL_law_563 : decode cL_law 563 = .ok (.iadd, 1) := by decide +kernel
theorem dL_law_564 : decode cL_law 564 = .ok (.iaload, 1) := by decide +kernel
theorem dL_law_565 : decode cL_law 565 = .ok (.invokevirtual 85, 3) := by decide +kernel
theorem dL_law_568 : decode cL_law 568 = .ok (.aload_n 2, 1) := by decide +kernel
theorem dL_law_569 : decode cL_law 569 = .ok (.aload_n 0, 1) := by decide +kernel
theorem dL_law_570 : decode cL_law 570 = .ok (.iload_n 3, 1) := by decide +kernel
theorem dL_law_571 : decode cL_law 571 = .ok (.iconst 1, 1) := by decide +kernel
theorem dL_law_572 : decode cL_law 572 = .ok (.iadd, 1) := by decide +kernel
theorem dL_law_573 : decode cL_law 573 = .ok (.iaload, 1) := by decide +kernel
theorem dL_law_574 : decode cL_law 574 = .ok (.invokevirtual 88, 3) := by decide +kernel
theorem dL_law_577 : decode cL_law 577 = .ok (.if_icmp .eq 367, 3) := by decide +kernel
theorem dL_law_580 : decode cL_law 580 = .ok (.iconst 0, 1) := by decide +kernel
theorem dL_law_581 : decode cL_law 581 = .ok (.ireturn, 1) := by decide +kernel
theorem dL_law_582 : decode cL_law 582 = .ok (.aload_n 1, 1) := by decide +kernel
theorem dL_law_583 : decode cL_law 583 = .ok (.invokevirtual 89, 3) := by decide +kernel
theorem dL_law_586 : decode cL_law 586 = .ok (.aload_n 2, 1) := by decide +kernel
theorem dL_law_587 : decode cL_law 587 = .ok (.invokevirtual 92, 3) := by decide +kernel
theorem dL_law_590 : decode cL_law 590 = .ok (.if_icmp .eq 354, 3) := by decide +kernel
theorem dL_law_593 : decode cL_law 593 = .ok (.iconst 0, 1) := by decide +kernel
theorem dL_law_594 : decode cL_law 594 = .ok (.ireturn, 1) := by decide +kernel
theorem dL_law_595 : decode cL_law 595 = .ok (.aload_n 1, 1) := by decide +kernel
theorem dL_law_596 : decode cL_law 596 = .ok (.aload_n 0, 1) := by decide +kernel
theorem dL_law_597 : decode cL_law 597 = .ok (.iload_n 3, 1) := by decide +kernel
theorem dL_law_598 : decode cL_law 598 = .ok (.iconst 1, 1) := by decide +kernel
theorem dL_law_599 : decode cL_law 599 = .ok (.iadd, 1) := by decide +kernel
theorem dL_law_600 : decode cL_law 600 = .ok (.iaload, 1) := by decide +kernel
theorem dL_law_601 : decode cL_law 601 = .ok (.invokevirtual 93, 3) := by decide +kernel
theorem dL_law_604 : decode cL_law 604 = .ok (.aload_n 2, 1) := by decide +kernel
theorem dL_law_605 : decode cL_law 605 = .ok (.aload_n 0, 1) := by decide +kernel
theorem dL_law_606 : decode cL_law 606 = .ok (.iload_n 3, 1) := by decide +kernel
theorem dL_law_607 : decode cL_law 607 = .ok (.iconst 1, 1) := by decide +kernel
theorem dL_law_608 : decode cL_law 608 = .ok (.iadd, 1) := by decide +kernel
theorem dL_law_609 : decode cL_law 609 = .ok (.iaload, 1) := by decide +kernel
theorem dL_law_610 : decode cL_law 610 = .ok (.invokevirtual 96, 3) := by decide +kernel
theorem dL_law_613 : decode cL_law 613 = .ok (.if_icmp .eq 331, 3) := by decide +kernel
theorem dL_law_616 : decode cL_law 616 = .ok (.iconst 0, 1) := by decide +kernel
theorem dL_law_617 : decode cL_law 617 = .ok (.ireturn, 1) := by decide +kernel
theorem dL_law_618 : decode cL_law 618 = .ok (.aload_n 1, 1) := by decide +kernel
theorem dL_law_619 : decode cL_law 619 = .ok (.aload_n 0, 1) := by decide +kernel
theorem dL_law_620 : decode cL_law 620 = .ok (.iload_n 3, 1) := by decide +kernel
theorem dL_law_621 : decode cL_law 621 = .ok (.iconst 1, 1) := by decide +kernel
theorem dL_law_622 : decode cL_law 622 = .ok (.iadd, 1) := by decide +kernel
theorem dL_law_623 : decode cL_law 623 = .ok (.iaload, 1) := by decide +kernel
theorem dL_law_624 : decode cL_law 624 = .ok (.invokevirtual 97, 3) := by decide +kernel
theorem dL_law_627 : decode cL_law 627 = .ok (.aload_n 2, 1) := by decide +kernel
theorem dL_law_628 : decode cL_law 628 = .ok (.aload_n 0, 1) := by decide +kernel
theorem dL_law_629 : decode cL_law 629 = .ok (.iload_n 3, 1) := by decide +kernel
theorem dL_law_630 : decode cL_law 630 = .ok (.iconst 1, 1) := by decide +kernel
theorem dL_law_631 : decode cL_law 631 = .ok (.iadd, 1) := by decide +kernel
theorem dL_law_632 : decode cL_law 632 = .ok (.iaload, 1) := by decide +kernel
theorem dL_law_633 : decode cL_law 633 = .ok (.invokevirtual 100, 3) := by decide +kernel
theorem dL_law_636 : decode cL_law 636 = .ok (.if_icmp .eq 308, 3) := by decide +kernel
theorem dL_law_639 : decode cL_law 639 = .ok (.iconst 0, 1) := by decide +kernel
theorem dL_law_640 : decode cL_law 640 = .ok (.ireturn, 1) := by decide +kernel
theorem dL_law_641 : decode cL_law 641 = .ok (.aload_n 1, 1) := by decide +kernel
theorem dL_law_642 : decode cL_law 642 = .ok (.aload_n 0, 1) := by decide +kernel
theorem dL_law_643 : decode cL_law 643 = .ok (.iload_n 3, 1) := by decide +kernel
theorem dL_law_644 : decode cL_law 644 = .ok (.iconst 1, 1) := by decide +kernel
theorem dL_law_645 : decode cL_law 645 = .ok (.iadd, 1) := by decide +kernel
theorem dL_law_646 : decode cL_law 646 = .ok (.iaload, 1) := by decide +kernel
theorem dL_law_647 : decode cL_law 647 = .ok (.aload_n 0, 1) := by decide +kernel
theorem dL_law_648 : decode cL_law 648 = .ok (.iload_n 3, 1) := by decide +kernel
theorem dL_law_649 : decode cL_law 649 = .ok (.iconst 2, 1) := by decide +kernel
theorem dL_law_650 : decode cL_law 650 = .ok (.iadd, 1) := by decide +kernel
theorem dL_law_651 : decode cL_law 651 = .ok (.iaload, 1) := by decide +kernel
theorem dL_law_652 : decode cL_law 652 = .ok (.invokevirtual 101, 3) := by decide +kernel
theorem dL_law_655 : decode cL_law 655 = .ok (.aload_n 2, 1) := by decide +kernel
theorem dL_law_656 : decode cL_law 656 = .ok (.aload_n 0, 1) := by decide +kernel
theorem dL_law_657 : decode cL_law 657 = .ok (.iload_n 3, 1) := by decide +kernel
theorem dL_law_658 : decode cL_law 658 = .ok (.iconst 1, 1) := by decide +kernel
theorem dL_law_659 : decode cL_law 659 = .ok (.iadd, 1) := by decide +kernel
theorem dL_law_660 : decode cL_law 660 = .ok (.iaload, 1) := by decide +kernel
theorem dL_law_661 : decode cL_law 661 = .ok (.aload_n 0, 1) := by decide +kernel
theorem dL_law_662 : decode cL_law 662 = .ok (.iload_n 3, 1) := by decide +kernel
theorem dL_law_663 : decode cL_law 663 = .ok (.iconst 2, 1) := by decide +kernel
theorem dL_law_664 : decode cL_law 664 = .ok (.iadd, 1) := by decide +kernel
theorem dL_law_665 : decode cL_law 665 = .ok (.iaload, 1) := by decide +kernel
theorem dL_law_666 : decode cL_law 666 = .ok (.invokevirtual 104, 3) := by decide +kernel
theorem dL_law_669 : decode cL_law 669 = .ok (.if_icmp .eq 275, 3) := by decide +kernel
theorem dL_law_672 : decode cL_law 672 = .ok (.iconst 0, 1) := by decide +kernel
theorem dL_law_673 : decode cL_law 673 = .ok (.ireturn, 1) := by decide +kernel
theorem dL_law_674 : decode cL_law 674 = .ok (.aload_n 1, 1) := by decide +kernel
theorem dL_law_675 : decode cL_law 675 = .ok (.aload_n 0, 1) := by decide +kernel
theorem dL_law_676 : decode cL_law 676 = .ok (.iload_n 3, 1) := by decide +kernel
theorem dL_law_677 : decode cL_law 677 = .ok (.iconst 1, 1) := by decide +kernel
theorem dL_law_678 : decode cL_law 678 = .ok (.iadd, 1) := by decide +kernel
theorem dL_law_679 : decode cL_law 679 = .ok (.iaload, 1) := by decide +kernel
theorem dL_law_680 : decode cL_law 680 = .ok (.aload_n 0, 1) := by decide +kernel
theorem dL_law_681 : decode cL_law 681 = .ok (.iload_n 3, 1) := by decide +kernel
theorem dL_law_682 : decode cL_law 682 = .ok (.iconst 2, 1) := by decide +kernel
theorem dL_law_683 : decode cL_law 683 = .ok (.iadd, 1) := by decide +kernel
theorem dL_law_684 : decode cL_law 684 = .ok (.iaload, 1) := by decide +kernel
theorem dL_law_685 : decode cL_law 685 = .ok (.invokevirtual 105, 3) := by decide +kernel
theorem dL_law_688 : decode cL_law 688 = .ok (.aload_n 2, 1) := by decide +kernel
theorem dL_law_689 : decode cL_law 689 = .ok (.aload_n 0, 1) := by decide +kernel
theorem dL_law_690 : decode cL_law 690 = .ok (.iload_n 3, 1) := by decide +kernel
theorem dL_law_691 : decode cL_law 691 = .ok (.iconst 1, 1) := by decide +kernel
theorem dL_law_692 : decode cL_law 692 = .ok (.iadd, 1) := by decide +kernel
theorem dL_law_693 : decode cL_law 693 = .ok (.iaload, 1) := by decide +kernel
theorem dL_law_694 : decode cL_law 694 = .ok (.aload_n 0, 1) := by decide +kernel
theorem dL_law_695 : decode cL_law 695 = .ok (.iload_n 3, 1) := by decide +kernel
theorem dL_law_696 : decode cL_law 696 = .ok (.iconst 2, 1) := by decide +kernel
theorem dL_law_697 : decode cL_law 697 = .ok (.iadd, 1) := by decide +kernel
theorem dL_law_698 : decode cL_law 698 = .ok (.iaload, 1) := by decide +kernel
theorem dL_law_699 : decode cL_law 699 = .ok (.invokevirtual 108, 3) := by decide +kernel
theorem dL_law_702 : decode cL_law 702 = .ok (.if_icmp .eq 242, 3) := by decide +kernel
theorem dL_law_705 : decode cL_law 705 = .ok (.iconst 0, 1) := by decide +kernel
theorem dL_law_706 : decode cL_law 706 = .ok (.ireturn, 1) := by decide +kernel
theorem dL_law_707 : decode cL_law 707 = .ok (.aload_n 1, 1) := by decide +kernel
theorem dL_law_708 : decode cL_law 708 = .ok (.invokevirtual 109, 3) := by decide +kernel
theorem dL_law_711 : decode cL_law 711 = .ok (.aload_n 2, 1) := by decide +kernel
theorem dL_law_712 : decode cL_law 712 = .ok (.invokevirtual 112, 3) := by decide +kernel
theorem dL_law_715 : decode cL_law 715 = .ok (.if_icmp .eq 229, 3) := by decide +kernel
theorem dL_law_718 : decode cL_law 718 = .ok (.iconst 0, 1) := by decide +kernel
theorem dL_law_719 : decode cL_law 719 = .ok (.ireturn, 1) := by decide +kernel
theorem dL_law_720 : decode cL_law 720 = .ok (.aload_n 1, 1) := by decide +kernel
theorem dL_law_721 : decode cL_law 721 = .ok (.invokevirtual 113, 3) := by decide +kernel
theorem dL_law_724 : decode cL_law 724 = .ok (.aload_n 2, 1) := by decide +kernel
theorem dL_law_725 : decode cL_law 725 = .ok (.invokevirtual 116, 3) := by decide +kernel
theorem dL_law_728 : decode cL_law 728 = .ok (.if_icmp .eq 216, 3) := by decide +kernel
theorem dL_law_731 : decode cL_law 731 = .ok (.iconst 0, 1) := by decide +kernel
theorem dL_law_732 : decode cL_law 732 = .ok (.ireturn, 1) := by decide +kernel
theorem dL_law_733 : decode cL_law 733 = .ok (.aload_n 1, 1) := by decide +kernel
theorem dL_law_734 : decode cL_law 734 = .ok (.invokevirtual 117, 3) := by decide +kernel
theorem dL_law_737 : decode cL_law 737 = .ok (.aload_n 2, 1) := by decide +kernel
theorem dL_law_738 : decode cL_law 738 = .ok (.invokevirtual 120, 3) := by decide +kernel
theorem dL_law_741 : decode cL_law 741 = .ok (.if_icmp .eq 203, 3) := by decide +kernel
theorem dL_law_744 : decode cL_law 744 = .ok (.iconst 0, 1) := by decide +kernel
theorem dL_law_745 : decode cL_law 745 = .ok (.ireturn, 1) := by decide +kernel
theorem dL_law_746 : decode cL_law 746 = .ok (.aload_n 1, 1) := by decide +kernel
theorem dL_law_747 : decode cL_law 747 = .ok (.aload_n 0, 1) := by decide +kernel
theorem dL_law_748 : decode cL_law 748 = .ok (.iload_n 3, 1) := by decide +kernel
theorem dL_law_749 : decode cL_law 749 = .ok (.iconst 1, 1) := by decide +kernel
theorem dL_law_750 : decode cL_law 750 = .ok (.iadd, 1) := by decide +kernel
theorem dL_law_751 : decode cL_law 751 = .ok (.iaload, 1) := by decide +kernel
theorem dL_law_752 : decode cL_law 752 = .ok (.invokevirtual 121, 3) := by decide +kernel
theorem dL_law_755 : decode cL_law 755 = .ok (.aload_n 2, 1) := by decide +kernel
theorem dL_law_756 : decode cL_law 756 = .ok (.aload_n 0, 1) := by decide +kernel
theorem dL_law_757 : decode cL_law 757 = .ok (.iload_n 3, 1) := by decide +kernel
theorem dL_law_758 : decode cL_law 758 = .ok (.iconst 1, 1) := by decide +kernel
theorem dL_law_759 : decode cL_law 759 = .ok (.iadd, 1) := by decide +kernel
theorem dL_law_760 : decode cL_law 760 = .ok (.iaload, 1) := by decide +kernel
theorem dL_law_761 : decode cL_law 761 = .ok (.invokevirtual 124, 3) := by decide +kernel
theorem dL_law_764 : decode cL_law 764 = .ok (.if_icmp .eq 180, 3) := by decide +kernel
theorem dL_law_767 : decode cL_law 767 = .ok (.iconst 0, 1) := by decide +kernel
theorem dL_law_768 : decode cL_law 768 = .ok (.ireturn, 1) := by decide +kernel
theorem dL_law_769 : decode cL_law 769 = .ok (.aload_n 1, 1) := by decide +kernel
theorem dL_law_770 : decode cL_law 770 = .ok (.aload_n 0, 1) := by decide +kernel
theorem dL_law_771 : decode cL_law 771 = .ok (.iload_n 3, 1) := by decide +kernel
theorem dL_law_772 : decode cL_law 772 = .ok (.iconst 1, 1) := by decide +kernel
theorem dL_law_773 : decode cL_law 773 = .ok (.iadd, 1) := by decide +kernel
theorem dL_law_774 : decode cL_law 774 = .ok (.iaload, 1) := by decide +kernel
theorem dL_law_775 : decode cL_law 775 = .ok (.aload_n 0, 1) := by decide +kernel
theorem dL_law_776 : decode cL_law 776 = .ok (.iload_n 3, 1) := by decide +kernel
theorem dL_law_777 : decode cL_law 777 = .ok (.iconst 2, 1) := by decide +kernel
theorem dL_law_778 : decode cL_law 778 = .ok (.iadd, 1) := by decide +kernel
theorem dL_law_779 : decode cL_law 779 = .ok (.iaload, 1) := by decide +kernel
theorem dL_law_780 : decode cL_law 780 = .ok (.invokevirtual 125, 3) := by decide +kernel
theorem dL_law_783 : decode cL_law 783 = .ok (.aload_n 2, 1) := by decide +kernel
theorem dL_law_784 : decode cL_law 784 = .ok (.aload_n 0, 1) := by decide +kernel
theorem dL_law_785 : decode cL_law 785 = .ok (.iload_n 3, 1) := by decide +kernel
theorem dL_law_786 : decode cL_law 786 = .ok (.iconst 1, 1) := by decide +kernel
theorem dL_law_787 : decode cL_law 787 = .ok (.iadd, 1) := by decide +kernel
theorem dL_law_788 : decode cL_law 788 = .ok (.iaload, 1) := by decide +kernel
theorem dL_law_789 : decode cL_law 789 = .ok (.aload_n 0, 1) := by decide +kernel
theorem dL_law_790 : decode cL_law 790 = .ok (.iload_n 3, 1) := by decide +kernel
theorem dL_law_791 : decode cL_law 791 = .ok (.iconst 2, 1) := by decide +kernel
theorem dL_law_792 : decode cL_law 792 = .ok (.iadd, 1) := by decide +kernel
theorem dL_law_793 : decode cL_law 793 = .ok (.iaload, 1) := by decide +kernel
theorem dL_law_794 : decode cL_law 794 = .ok (.invokevirtual 128, 3) := by decide +kernel
theorem dL_law_797 : decode cL_law 797 = .ok (.if_icmp .eq 147, 3) := by decide +kernel
theorem dL_law_800 : decode cL_law 800 = .ok (.iconst 0, 1) := by decide +kernel
theorem dL_law_801 : decode cL_law 801 = .ok (.ireturn, 1) := by decide +kernel
theorem dL_law_802 : decode cL_law 802 = .ok (.aload_n 1, 1) := by decide +kernel
theorem dL_law_803 : decode cL_law 803 = .ok (.invokevirtual 129, 3) := by decide +kernel
theorem dL_law_806 : decode cL_law 806 = .ok (.aload_n 2, 1) := by decide +kernel
theorem dL_law_807 : decode cL_law 807 = .ok (.invokevirtual 133, 3) := by decide +kernel
theorem dL_law_810 : decode cL_law 810 = .ok (.lcmp, 1) := by decide +kernel
theorem dL_law_811 : decode cL_law 811 = .ok (.ifCond .eq 133, 3) := by decide +kernel
theorem dL_law_814 : decode cL_law 814 = .ok (.iconst 0, 1) := by decide +kernel
theorem dL_law_815 : decode cL_law 815 = .ok (.ireturn, 1) := by decide +kernel
theorem dL_law_816 : decode cL_law 816 = .ok (.aload_n 1, 1) := by decide +kernel
theorem dL_law_817 : decode cL_law 817 = .ok (.invokevirtual 134, 3) := by decide +kernel
theorem dL_law_820 : decode cL_law 820 = .ok (.aload_n 2, 1) := by decide +kernel
theorem dL_law_821 : decode cL_law 821 = .ok (.invokevirtual 137, 3) := by decide +kernel
theorem dL_law_824 : decode cL_law 824 = .ok (.if_icmp .eq 120, 3) := by decide +kernel
theorem dL_law_827 : decode cL_law 827 = .ok (.iconst 0, 1) := by decide +kernel
theorem dL_law_828 : decode cL_law 828 = .ok (.ireturn, 1) := by decide +kernel
theorem dL_law_829 : decode cL_law 829 = .ok (.aload_n 1, 1) := by decide +kernel
theorem dL_law_830 : decode cL_law 830 = .ok (.aload_n 0, 1) := by decide +kernel
theorem dL_law_831 : decode cL_law 831 = .ok (.iload_n 3, 1) := by decide +kernel
theorem dL_law_832 : decode cL_law 832 = .ok (.iconst 1, 1) := by decide +kernel
theorem dL_law_833 : decode cL_law 833 = .ok (.iadd, 1) := by decide +kernel
theorem dL_law_834 : decode cL_law 834 = .ok (.iaload, 1) := by decide +kernel
theorem dL_law_835 : decode cL_law 835 = .ok (.aload_n 0, 1) := by decide +kernel
theorem dL_law_836 : decode cL_law 836 = .ok (.iload_n 3, 1) := by decide +kernel
theorem dL_law_837 : decode cL_law 837 = .ok (.iconst 2, 1) := by decide +kernel
theorem dL_law_838 : decode cL_law 838 = .ok (.iadd, 1) := by decide +kernel
theorem dL_law_839 : decode cL_law 839 = .ok (.iaload, 1) := by decide +kernel
theorem dL_law_840 : decode cL_law 840 = .ok (.invokevirtual 138, 3) := by decide +kernel
theorem dL_law_843 : decode cL_law 843 = .ok (.aload_n 2, 1) := by decide +kernel
theorem dL_law_844 : decode cL_law 844 = .ok (.aload_n 0, 1) := by decide +kernel
theorem dL_law_845 : decode cL_law 845 = .ok (.iload_n 3, 1) := by decide +kernel
theorem dL_law_846 : decode cL_law 846 = .ok (.iconst 1, 1) := by decide +kernel
theorem dL_law_847 : decode cL_law 847 = .ok (.iadd, 1) := by decide +kernel
theorem dL_law_848 : decode cL_law 848 = .ok (.iaload, 1) := by decide +kernel
theorem dL_law_849 : decode cL_law 849 = .ok (.aload_n 0, 1) := by decide +kernel
theorem dL_law_850 : decode cL_law 850 = .ok (.iload_n 3, 1) := by decide +kernel
theorem dL_law_851 : decode cL_law 851 = .ok (.iconst 2, 1) := by decide +kernel
theorem dL_law_852 : decode cL_law 852 = .ok (.iadd, 1) := by decide +kernel
theorem dL_law_853 : decode cL_law 853 = .ok (.iaload, 1) := by decide +kernel
theorem dL_law_854 : decode cL_law 854 = .ok (.invokevirtual 141, 3) := by decide +kernel
theorem dL_law_857 : decode cL_law 857 = .ok (.if_icmp .eq 87, 3) := by decide +kernel
theorem dL_law_860 : decode cL_law 860 = .ok (.iconst 0, 1) := by decide +kernel
theorem dL_law_861 : decode cL_law 861 = .ok (.ireturn, 1) := by decide +kernel
theorem dL_law_862 : decode cL_law 862 = .ok (.aload_n 1, 1) := by decide +kernel
theorem dL_law_863 : decode cL_law 863 = .ok (.aload_n 0, 1) := by decide +kernel
theorem dL_law_864 : decode cL_law 864 = .ok (.iload_n 3, 1) := by decide +kernel
theorem dL_law_865 : decode cL_law 865 = .ok (.iconst 1, 1) := by decide +kernel
theorem dL_law_866 : decode cL_law 866 = .ok (.iadd, 1) := by decide +kernel
theorem dL_law_867 : decode cL_law 867 = .ok (.iaload, 1) := by decide +kernel
theorem dL_law_868 : decode cL_law 868 = .ok (.aload_n 0, 1) := by decide +kernel
theorem dL_law_869 : decode cL_law 869 = .ok (.iload_n 3, 1) := by decide +kernel
theorem dL_law_870 : decode cL_law 870 = .ok (.iconst 2, 1) := by decide +kernel
theorem dL_law_871 : decode cL_law 871 = .ok (.iadd, 1) := by decide +kernel
theorem dL_law_872 : decode cL_law 872 = .ok (.iaload, 1) := by decide +kernel
theorem dL_law_873 : decode cL_law 873 = .ok (.invokevirtual 142, 3) := by decide +kernel
theorem dL_law_876 : decode cL_law 876 = .ok (.aload_n 2, 1) := by decide +kernel
theorem dL_law_877 : decode cL_law 877 = .ok (.aload_n 0, 1) := by decide +kernel
theorem dL_law_878 : decode cL_law 878 = .ok (.iload_n 3, 1) := by decide +kernel
theorem dL_law_879 : decode cL_law 879 = .ok (.iconst 1, 1) := by decide +kernel
theorem dL_law_880 : decode cL_law 880 = .ok (.iadd, 1) := by decide +kernel
theorem dL_law_881 : decode cL_law 881 = .ok (.iaload, 1) := by decide +kernel
theorem dL_law_882 : decode cL_law 882 = .ok (.aload_n 0, 1) := by decide +kernel
theorem dL_law_883 : decode cL_law 883 = .ok (.iload_n 3, 1) := by decide +kernel
theorem dL_law_884 : decode cL_law 884 = .ok (.iconst 2, 1) := by decide +kernel
theorem dL_law_885 : decode cL_law 885 = .ok (.iadd, 1) := by decide +kernel
theorem dL_law_886 : decode cL_law 886 = .ok (.iaload, 1) := by decide +kernel
theorem dL_law_887 : decode cL_law 887 = .ok (.invokevirtual 145, 3) := by decide +kernel
theorem dL_law_890 : decode cL_law 890 = .ok (.if_icmp .eq 54, 3) := by decide +kernel
theorem dL_law_893 : decode cL_law 893 = .ok (.iconst 0, 1) := by decide +kernel
theorem dL_law_894 : decode cL_law 894 = .ok (.ireturn, 1) := by decide +kernel
theorem dL_law_895 : decode cL_law 895 = .ok (.aload_n 1, 1) := by decide +kernel
theorem dL_law_896 : decode cL_law 896 = .ok (.aload_n 0, 1) := by decide +kernel
theorem dL_law_897 : decode cL_law 897 = .ok (.iload_n 3, 1) := by decide +kernel
theorem dL_law_898 : decode cL_law 898 = .ok (.iconst 1, 1) := by decide +kernel
theorem dL_law_899 : decode cL_law 899 = .ok (.iadd, 1) := by decide +kernel
theorem dL_law_900 : decode cL_law 900 = .ok (.iaload, 1) := by decide +kernel
theorem dL_law_901 : decode cL_law 901 = .ok (.invokevirtual 146, 3) := by decide +kernel
theorem dL_law_904 : decode cL_law 904 = .ok (.aload_n 2, 1) := by decide +kernel
theorem dL_law_905 : decode cL_law 905 = .ok (.aload_n 0, 1) := by decide +kernel
theorem dL_law_906 : decode cL_law 906 = .ok (.iload_n 3, 1) := by decide +kernel
theorem dL_law_907 : decode cL_law 907 = .ok (.iconst 1, 1) := by decide +kernel
theorem dL_law_908 : decode cL_law 908 = .ok (.iadd, 1) := by decide +kernel
theorem dL_law_909 : decode cL_law 909 = .ok (.iaload, 1) := by decide +kernel
theorem dL_law_910 : decode cL_law 910 = .ok (.invokevirtual 149, 3) := by decide +kernel
theorem dL_law_913 : decode cL_law 913 = .ok (.if_icmp .eq 31, 3) := by decide +kernel
theorem dL_law_916 : decode cL_law 916 = .ok (.iconst 0, 1) := by decide +kernel
theorem dL_law_917 : decode cL_law 917 = .ok (.ireturn, 1) := by decide +kernel
theorem dL_law_918 : decode cL_law 918 = .ok (.aload_n 1, 1) := by decide +kernel
theorem dL_law_919 : decode cL_law 919 = .ok (.invokevirtual 150, 3) := by decide +kernel
theorem dL_law_922 : decode cL_law 922 = .ok (.aload_n 2, 1) := by decide +kernel
theorem dL_law_923 : decode cL_law 923 = .ok (.invokevirtual 153, 3) := by decide +kernel
theorem dL_law_926 : decode cL_law 926 = .ok (.if_icmp .eq 18, 3) := by decide +kernel
theorem dL_law_929 : decode cL_law 929 = .ok (.iconst 0, 1) := by decide +kernel
theorem dL_law_930 : decode cL_law 930 = .ok (.ireturn, 1) := by decide +kernel
theorem dL_law_931 : decode cL_law 931 = .ok (.aload_n 1, 1) := by decide +kernel
theorem dL_law_932 : decode cL_law 932 = .ok (.invokevirtual 154, 3) := by decide +kernel
theorem dL_law_935 : decode cL_law 935 = .ok (.aload_n 2, 1) := by decide +kernel
theorem dL_law_936 : decode cL_law 936 = .ok (.invokevirtual 157, 3) := by decide +kernel
theorem dL_law_939 : decode cL_law 939 = .ok (.if_icmp .eq 5, 3) := by decide +kernel
theorem dL_law_942 : decode cL_law 942 = .ok (.iconst 0, 1) := by decide +kernel
theorem dL_law_943 : decode cL_law 943 = .ok (.ireturn, 1) := by decide +kernel
theorem dL_law_944 : decode cL_law 944 = .ok (.iinc 3 6, 3) := by decide +kernel
theorem dL_law_947 : decode cL_law 947 = .ok (.goto (-929), 3) := by decide +kernel
theorem dL_law_950 : decode cL_law 950 = .ok (.iconst 1, 1) := by decide +kernel
theorem dL_law_951 : decode cL_law 951 = .ok (.ireturn, 1) := by decide +kernel
end
section
/-! numbers, memories, pure programs -/
abbrev zMem : Type := Nat → Int → Int
abbrev zO : Type := Option (Int × zMem)
def z_I (x : Int) : Int32 := Int32.ofInt x
def z_L (x : Int) : Int64 := Int64.ofInt x
abbrev z_Rg (x : Int) : Prop := -2147483648 ≤ x ∧ x ≤ 2147483647
abbrev z_RgL (x : Int) : Prop := -9223372036854775808 ≤ x ∧ x ≤ 9223372036854775807
theorem z_I_in {x : Int} (h : z_Rg x) : (z_I x).toInt = x := Int32.toInt_ofInt_of_le (by omega) (by omega)
theorem z_L_in {x : Int} (h : z_RgL x) : (z_L x).toInt = x := Int64.toInt_ofInt_of_le (by omega) (by omega)
theorem z_I_of (a : Int32) : z_I a.toInt = a := Int32.ofInt_toInt a
theorem z_I_rg (a : Int32) : z_Rg a.toInt := ⟨by have := Int32.le_toInt a; omega, by have := Int32.toInt_lt a; omega⟩
theorem z_lt_iff {x y : Int} (hx : z_Rg x) (hy : z_Rg y) : z_I x < z_I y ↔ x < y := by rw [Int32.lt_iff_toInt_lt, z_I_in hx, z_I_in hy]
theorem z_le_iff {x y : Int} (hx : z_Rg x) (hy : z_Rg y) : z_I x ≤ z_I y ↔ x ≤ y := by rw [Int32.le_iff_toInt_le, z_I_in hx, z_I_in hy]
theorem z_eq_iff {x y : Int} (hx : z_Rg x) (hy : z_Rg y) : z_I x = z_I y ↔ x = y := by rw [← Int32.toInt_inj, z_I_in hx, z_I_in hy]
theorem z_Lgt_iff {x y : Int} (hx : z_RgL x) (hy : z_RgL y) : z_L x > z_L y ↔ y < x := by rw [gt_iff_lt, Int64.lt_iff_toInt_lt, z_L_in hx, z_L_in hy]
theorem z_Leq_iff {x y : Int} (hx : z_RgL x) (hy : z_RgL y) : z_L x = z_L y ↔ x = y := by rw [← Int64.toInt_inj, z_L_in hx, z_L_in hy]
theorem z_nat {i : Int} (h : z_Rg i) : (z_I i).toNatClampNeg = i.toNat := by show ((z_I i).toInt).toNat = _; rw [z_I_in h]
theorem z_vin {i : Int} {n : Nat} (h : 0 ≤ i ∧ i < (n : Int)) (hn : n < 2147483648) : vp_in (z_I i) n := by
  have hr : z_Rg i := by omega
  rw [vp_in_iff, z_I_in hr]; exact h
def z_st (M : zMem) (c : Nat) (i v : Int) : zMem := fun c' j => if c' = c then (if j = i then v else M c' j) else M c' j
def z_nm {α β : Type} (e : α) (K : α → Option β) : Option β := K e
def z_jn {α β : Type} (K : α) (F : α → β) : β := F K
def z_lt (x y : Int) (A B : zO) : zO := if z_Rg x ∧ z_Rg y then (if x < y then A else B) else none
def z_le (x y : Int) (A B : zO) : zO := if z_Rg x ∧ z_Rg y then (if x ≤ y then A else B) else none
def z_eq (x y : Int) (A B : zO) : zO := if z_Rg x ∧ z_Rg y then (if x = y then A else B) else none
def z_rd (M : zMem) (c : Nat) (n i : Int) (K : Int → zO) : zO := if 0 ≤ i ∧ i < n then K (M c i) else none
def z_wr (M : zMem) (c : Nat) (n i v : Int) (K : zMem → zO) : zO := if 0 ≤ i ∧ i < n then K (z_st M c i v) else none
def z_wz (M : zMem) (c : Nat) (n i v : Int) (K : zMem → zO) : zO := if (0 ≤ i ∧ i < n) ∧ (v = 0 ∨ v = 1) then K (z_st M c i v) else none
def z_pf (M : zMem) (c : Nat) (k v : Int) (K : zMem → zO) : zO := K (z_st M c k v)
def z_pz (M : zMem) (c : Nat) (k v : Int) (K : zMem → zO) : zO := if v = 0 ∨ v = 1 then K (z_st M c k v) else none
def z_dv (x y : Int) (K : Int → zO) : zO := if (0 ≤ x ∧ x ≤ 2147483647) ∧ (0 < y ∧ y ≤ 2147483647) then K (x / y) else none
def z_md (x y : Int) (K : Int → zO) : zO := if (0 ≤ x ∧ x ≤ 2147483647) ∧ (0 < y ∧ y ≤ 2147483647) then K (x % y) else none
def z_mt (x y : Int) (K : Int → zO) : zO := if z_Rg x ∧ (0 < y ∧ y ≤ 2147483647) then K (Int.tmod x y) else none
def z_il (x : Int) (K : Int → zO) : zO := if z_Rg x then K x else none
def z_lc (x y : Int) (K : Int → zO) : zO := if z_RgL x ∧ z_RgL y then K (if y < x then 1 else if x = y then 0 else -1) else none
def z_cl (o : zO) (K : Int → zMem → zO) : zO := match o with
  | none => none
  | some q => K q.1 q.2
def z_cp (M : zMem) (cs : Nat) (ns sp : Int) (cd : Nat) (nd dp n : Int) (K : zMem → zO) : zO := if (0 ≤ sp ∧ 0 ≤ dp ∧ 0 ≤ n ∧ sp + n ≤ ns ∧ dp + n ≤ nd) then K (fun c' j => if c' = cd then (if dp ≤ j ∧ j < dp + n then M cs (sp + (j - dp)) else M c' j) else M c' j) else none
def z_and (x y : Int) : Int := (z_I x &&& z_I y).toInt
def z_or (x y : Int) : Int := (z_I x ||| z_I y).toInt
def z_xor (x y : Int) : Int := (z_I x ^^^ z_I y).toInt
def z_shl (x y : Int) : Int := (z_I x <<< (z_I y &&& 31)).toInt
def z_shr (x y : Int) : Int := (z_I x >>> (z_I y &&& 31)).toInt
def z_ushr (x y : Int) : Int := ((z_I x).toUInt32 >>> ((z_I y).toUInt32 &&& Int32.toUInt32 31)).toInt32.toInt
theorem z_ltd {x y : Int} {A B : zO} {r : Int × zMem} (h : z_lt x y A B = some r) : z_Rg x ∧ z_Rg y ∧ ((x < y ∧ A = some r) ∨ (¬ x < y ∧ B = some r)) := by
  unfold z_lt at h
  split at h
  · rename_i hc
    refine ⟨hc.1, hc.2, ?_⟩
    split at h
    · rename_i hd; exact Or.inl ⟨hd, h⟩
    · rename_i hd; exact Or.inr ⟨hd, h⟩
  · cases h
theorem z_led {x y : Int} {A B : zO} {r : Int × zMem} (h : z_le x y A B = some r) : z_Rg x ∧ z_Rg y ∧ ((x ≤ y ∧ A = some r) ∨ (¬ x ≤ y ∧ B = some r)) := by
  unfold z_le at h
  split at h
  · rename_i hc
    refine ⟨hc.1, hc.2, ?_⟩
    split at h
    · rename_i hd; exact Or.inl ⟨hd, h⟩
    · rename_i hd; exact Or.inr ⟨hd, h⟩
  · cases h
theorem z_eqd {x y : Int} {A B : zO} {r : Int × zMem} (h : z_eq x y A B = some r) : z_Rg x ∧ z_Rg y ∧ ((x = y ∧ A = some r) ∨ (¬ x = y ∧ B = some r)) := by
  unfold z_eq at h
  split at h
  · rename_i hc
    refine ⟨hc.1, hc.2, ?_⟩
    split at h
    · rename_i hd; exact Or.inl ⟨hd, h⟩
    · rename_i hd; exact Or.inr ⟨hd, h⟩
  · cases h
theorem z_cld {o : zO} {K : Int → zMem → zO} {r : Int × zMem} (h : z_cl o K = some r) : ∃ (x : Int) (M : zMem), o = some (x, M) ∧ K x M = some r := by
  cases o with
  | none => cases h
  | some q => exact ⟨q.1, q.2, rfl, h⟩
theorem z_upd {M : zMem} {c : Nat} {i v : Int} (h : 0 ≤ i ∧ i ≤ 2147483647) : upd (fun j : Nat => z_I (M c (j : Int))) (z_I i).toNatClampNeg (z_I v) = fun j : Nat => z_I (z_st M c i v c (j : Int)) := by
  have hr : z_Rg i := by omega
  rw [z_nat hr]
  funext j
  unfold upd z_st
  by_cases hj : j = i.toNat
  · have h2 : (j : Int) = i := by omega
    rw [if_pos hj, if_pos rfl, if_pos h2]
  · have h2 : ¬ (j : Int) = i := by omega
    rw [if_neg hj, if_pos rfl, if_neg h2]
/-! the words that every method has -/
def z_G : List Cond := lw_tbl.filter goodWord
theorem z_G_in {i : Nat} {w : Cond} (h : lw_tbl[i]? = some w) (hg : goodWord w = true) : w ∈ z_G := List.mem_filter.mpr ⟨List.mem_of_getElem? h, hg⟩
theorem z_G_good {y : MethodName} {cc : ByteArray} {n : Nat} {ret : Option FieldType} (h : Cond.code y cc n ret ∈ z_G) : GoodIn z_G (.code y cc n ret :: z_G) := by
  intro w hw
  rcases List.mem_cons.mp hw with rfl | hw
  · exact ⟨h, good_of_word (List.mem_filter.mp h).2⟩
  · exact ⟨hw, good_of_word (List.mem_filter.mp hw).2⟩

/-! the judgement: the machine, at pc, with the world ws, the locals lv and the stack st, comes to Q -/
def z_W (p : Program) (l : Launch) (e : Env) (R : Room) (s : State) (m : MethodId) (args : Array Value) (below : List Frame) (meth : Method) (c : Code) (D : va_G) (A : Nat → Prop) (Q : State → Prop) (nL cells slots : Nat) (ws : va_W) (pc : Nat) (lv : List (Nat × Value)) (st : List Value) : Prop :=
  ∀ (H : Heap) (locs : List Loc) (ls : Array Slot), va_P D vwCl ws H → va_D A ws → va_S A s.heap H locs → lv_has ls nL lv → W p l e R s m args below meth c H locs cells slots Q (F0 m pc ls st)
section ZR
variable {p : Program} {l : Launch} {e : Env} {R : Room} {s : State} {m : MethodId} {args : Array Value} {below : List Frame} {meth : Method} {c : Code} {Q : State → Prop} {cells slots : Nat} {D : va_G} {A : Nat → Prop} {nL : Nat} {ws : va_W} {cc : ByteArray} {pc : Nat} {lv : List (Nat × Value)} {rest : List Value} {own : String} {lev : Nat} {cI cZ : ClassId} {adK adV : Nat → Nat}
theorem z_iconst (Z : CallFix p m c cc nL s args z_G own) {n : Int} (hdg : decode cc pc = .ok (.iconst n, 1)) (kk : z_W p l e R s m args below meth c D A Q nL cells slots ws (pc + 1) lv (.int (z_I n) :: rest)) : z_W p l e R s m args below meth c D A Q nL cells slots ws pc lv (rest) := fun H locs ls hP hD hS hl => lv_iconst Z.1 Z.2.1 hdg rfl (kk H locs ls hP hD hS hl)
theorem z_bipush (Z : CallFix p m c cc nL s args z_G own) {n : Int} (hdg : decode cc pc = .ok (.bipush n, 2)) (hv : (Int8.ofInt n).toInt32 = z_I n) (kk : z_W p l e R s m args below meth c D A Q nL cells slots ws (pc + 2) lv (.int (z_I n) :: rest)) : z_W p l e R s m args below meth c D A Q nL cells slots ws pc lv (rest) := fun H locs ls hP hD hS hl => lv_bipush Z.1 Z.2.1 hdg hv (kk H locs ls hP hD hS hl)
theorem z_sipush (Z : CallFix p m c cc nL s args z_G own) {n : Int} (hdg : decode cc pc = .ok (.sipush n, 3)) (hv : (Int16.ofInt n).toInt32 = z_I n) (kk : z_W p l e R s m args below meth c D A Q nL cells slots ws (pc + 3) lv (.int (z_I n) :: rest)) : z_W p l e R s m args below meth c D A Q nL cells slots ws pc lv (rest) := fun H locs ls hP hD hS hl => lv_sipush Z.1 Z.2.1 hdg hv (kk H locs ls hP hD hS hl)
theorem z_ldc (Z : CallFix p m c cc nL s args z_G own) {index : Nat} {n : Int} (hdg : decode cc pc = .ok (.ldc index, 2)) (hc : Cond.constant own index (z_I n) ∈ z_G) (kk : z_W p l e R s m args below meth c D A Q nL cells slots ws (pc + 2) lv (.int (z_I n) :: rest)) : z_W p l e R s m args below meth c D A Q nL cells slots ws pc lv (rest) := fun H locs ls hP hD hS hl => lv_ldc Z.1 Z.2.1 Z.2.2.2.1 (Z.2.2.2.2 _ hc) hdg (kk H locs ls hP hD hS hl)
theorem z_ldcw (Z : CallFix p m c cc nL s args z_G own) {index : Nat} {n : Int} (hdg : decode cc pc = .ok (.ldc_w index, 3)) (hc : Cond.constant own index (z_I n) ∈ z_G) (kk : z_W p l e R s m args below meth c D A Q nL cells slots ws (pc + 3) lv (.int (z_I n) :: rest)) : z_W p l e R s m args below meth c D A Q nL cells slots ws pc lv (rest) := fun H locs ls hP hD hS hl => lv_ldcw Z.1 Z.2.1 Z.2.2.2.1 (Z.2.2.2.2 _ hc) hdg (kk H locs ls hP hD hS hl)
theorem z_ldc2 (Z : CallFix p m c cc nL s args z_G own) {index : Nat} {n : Int} (hdg : decode cc pc = .ok (.ldc2_w index, 3)) (hc : Cond.constantLong own index (z_L n) ∈ z_G) (kk : z_W p l e R s m args below meth c D A Q nL cells slots ws (pc + 3) lv (.long (z_L n) :: rest)) : z_W p l e R s m args below meth c D A Q nL cells slots ws pc lv (rest) := fun H locs ls hP hD hS hl => lv_ldc2 Z.1 Z.2.1 Z.2.2.2.1 (Z.2.2.2.2 _ hc) hdg (kk H locs ls hP hD hS hl)
theorem z_lconst (Z : CallFix p m c cc nL s args z_G own) {n : Fin 2} {x : Int} (hdg : decode cc pc = .ok (.lconst n, 1)) (hv : Int64.ofNat (n : Nat) = z_L x) (kk : z_W p l e R s m args below meth c D A Q nL cells slots ws (pc + 1) lv (.long (z_L x) :: rest)) : z_W p l e R s m args below meth c D A Q nL cells slots ws pc lv (rest) := fun H locs ls hP hD hS hl => lv_lconst Z.1 Z.2.1 hdg hv (kk H locs ls hP hD hS hl)
theorem z_iload_n (Z : CallFix p m c cc nL s args z_G own) {k : Fin 4} {i : Nat} {x : Int32} (hdg : decode cc pc = .ok (.iload_n k, 1)) (hi : (k : Nat) = i) (j : Nat) (hv : lv[j]? = some (i, .int x)) (kk : z_W p l e R s m args below meth c D A Q nL cells slots ws (pc + 1) lv (.int x :: rest)) : z_W p l e R s m args below meth c D A Q nL cells slots ws pc lv (rest) := fun H locs ls hP hD hS hl => lv_iload_n Z.1 Z.2.1 hdg hi (lv_at hl j hv) (kk H locs ls hP hD hS hl)
theorem z_iload (Z : CallFix p m c cc nL s args z_G own) {i : Nat} {x : Int32} (hdg : decode cc pc = .ok (.iload i, 2)) (j : Nat) (hv : lv[j]? = some (i, .int x)) (kk : z_W p l e R s m args below meth c D A Q nL cells slots ws (pc + 2) lv (.int x :: rest)) : z_W p l e R s m args below meth c D A Q nL cells slots ws pc lv (rest) := fun H locs ls hP hD hS hl => lv_iload Z.1 Z.2.1 hdg (lv_at hl j hv) (kk H locs ls hP hD hS hl)
theorem z_istore_n (Z : CallFix p m c cc nL s args z_G own) {k : Fin 4} {i : Nat} {x : Int32} {lv' : List (Nat × Value)} (hdg : decode cc pc = .ok (.istore_n k, 1)) (hi : (k : Nat) = i) (hn : i < nL) (hl2 : (i, Value.int x) :: lv.filter (fun q => !(q.1 == i) && !(q.1 + 1 == i && q.2.category == 2)) = lv') (kk : z_W p l e R s m args below meth c D A Q nL cells slots ws (pc + 1) lv' rest) : z_W p l e R s m args below meth c D A Q nL cells slots ws pc lv (.int x :: rest) := fun H locs ls hP hD hS hl => lv_istore_n Z.1 Z.2.1 hdg hi hl hn hl2 (fun ls2 hl3 => kk H locs ls2 hP hD hS hl3)
theorem z_istore (Z : CallFix p m c cc nL s args z_G own) {i : Nat} {x : Int32} {lv' : List (Nat × Value)} (hdg : decode cc pc = .ok (.istore i, 2)) (hn : i < nL) (hl2 : (i, Value.int x) :: lv.filter (fun q => !(q.1 == i) && !(q.1 + 1 == i && q.2.category == 2)) = lv') (kk : z_W p l e R s m args below meth c D A Q nL cells slots ws (pc + 2) lv' rest) : z_W p l e R s m args below meth c D A Q nL cells slots ws pc lv (.int x :: rest) := fun H locs ls hP hD hS hl => lv_istore Z.1 Z.2.1 hdg hl hn hl2 (fun ls2 hl3 => kk H locs ls2 hP hD hS hl3)
theorem z_lload_n (Z : CallFix p m c cc nL s args z_G own) {k : Fin 4} {i : Nat} {x : Int64} (hdg : decode cc pc = .ok (.lload_n k, 1)) (hi : (k : Nat) = i) (j : Nat) (hv : lv[j]? = some (i, .long x)) (kk : z_W p l e R s m args below meth c D A Q nL cells slots ws (pc + 1) lv (.long x :: rest)) : z_W p l e R s m args below meth c D A Q nL cells slots ws pc lv (rest) := fun H locs ls hP hD hS hl => lv_lload_n Z.1 Z.2.1 hdg hi (lv_at hl j hv) (kk H locs ls hP hD hS hl)
theorem z_lload (Z : CallFix p m c cc nL s args z_G own) {i : Nat} {x : Int64} (hdg : decode cc pc = .ok (.lload i, 2)) (j : Nat) (hv : lv[j]? = some (i, .long x)) (kk : z_W p l e R s m args below meth c D A Q nL cells slots ws (pc + 2) lv (.long x :: rest)) : z_W p l e R s m args below meth c D A Q nL cells slots ws pc lv (rest) := fun H locs ls hP hD hS hl => lv_lload Z.1 Z.2.1 hdg (lv_at hl j hv) (kk H locs ls hP hD hS hl)
theorem z_lstore_n (Z : CallFix p m c cc nL s args z_G own) {k : Fin 4} {i : Nat} {x : Int64} {lv' : List (Nat × Value)} (hdg : decode cc pc = .ok (.lstore_n k, 1)) (hi : (k : Nat) = i) (hn : i + 1 < nL) (hl2 : (i, Value.long x) :: lv.filter (fun q => !(q.1 == i) && (!(q.1 == i + 1) && !(q.1 + 1 == i && q.2.category == 2))) = lv') (kk : z_W p l e R s m args below meth c D A Q nL cells slots ws (pc + 1) lv' rest) : z_W p l e R s m args below meth c D A Q nL cells slots ws pc lv (.long x :: rest) := fun H locs ls hP hD hS hl => lv_lstore_n Z.1 Z.2.1 hdg hi hl hn hl2 (fun ls2 hl3 => kk H locs ls2 hP hD hS hl3)
theorem z_lstore (Z : CallFix p m c cc nL s args z_G own) {i : Nat} {x : Int64} {lv' : List (Nat × Value)} (hdg : decode cc pc = .ok (.lstore i, 2)) (hn : i + 1 < nL) (hl2 : (i, Value.long x) :: lv.filter (fun q => !(q.1 == i) && (!(q.1 == i + 1) && !(q.1 + 1 == i && q.2.category == 2))) = lv') (kk : z_W p l e R s m args below meth c D A Q nL cells slots ws (pc + 2) lv' rest) : z_W p l e R s m args below meth c D A Q nL cells slots ws pc lv (.long x :: rest) := fun H locs ls hP hD hS hl => lv_lstore Z.1 Z.2.1 hdg hl hn hl2 (fun ls2 hl3 => kk H locs ls2 hP hD hS hl3)
theorem z_aload_n (Z : CallFix p m c cc nL s args z_G own) {k : Fin 4} {i : Nat} {x : Nat} (hdg : decode cc pc = .ok (.aload_n k, 1)) (hi : (k : Nat) = i) (j : Nat) (hv : lv[j]? = some (i, .ref x)) (kk : z_W p l e R s m args below meth c D A Q nL cells slots ws (pc + 1) lv (.ref x :: rest)) : z_W p l e R s m args below meth c D A Q nL cells slots ws pc lv (rest) := fun H locs ls hP hD hS hl => lv_aload_n Z.1 Z.2.1 hdg hi (lv_at hl j hv) (kk H locs ls hP hD hS hl)
theorem z_aload (Z : CallFix p m c cc nL s args z_G own) {i : Nat} {x : Nat} (hdg : decode cc pc = .ok (.aload i, 2)) (j : Nat) (hv : lv[j]? = some (i, .ref x)) (kk : z_W p l e R s m args below meth c D A Q nL cells slots ws (pc + 2) lv (.ref x :: rest)) : z_W p l e R s m args below meth c D A Q nL cells slots ws pc lv (rest) := fun H locs ls hP hD hS hl => lv_aload Z.1 Z.2.1 hdg (lv_at hl j hv) (kk H locs ls hP hD hS hl)
theorem z_astore_n (Z : CallFix p m c cc nL s args z_G own) {k : Fin 4} {i : Nat} {x : Nat} {lv' : List (Nat × Value)} (hdg : decode cc pc = .ok (.astore_n k, 1)) (hi : (k : Nat) = i) (hn : i < nL) (hl2 : (i, Value.ref x) :: lv.filter (fun q => !(q.1 == i) && !(q.1 + 1 == i && q.2.category == 2)) = lv') (kk : z_W p l e R s m args below meth c D A Q nL cells slots ws (pc + 1) lv' rest) : z_W p l e R s m args below meth c D A Q nL cells slots ws pc lv (.ref x :: rest) := fun H locs ls hP hD hS hl => lv_astore_n Z.1 Z.2.1 hdg hi hl hn hl2 (fun ls2 hl3 => kk H locs ls2 hP hD hS hl3)
theorem z_astore (Z : CallFix p m c cc nL s args z_G own) {i : Nat} {x : Nat} {lv' : List (Nat × Value)} (hdg : decode cc pc = .ok (.astore i, 2)) (hn : i < nL) (hl2 : (i, Value.ref x) :: lv.filter (fun q => !(q.1 == i) && !(q.1 + 1 == i && q.2.category == 2)) = lv') (kk : z_W p l e R s m args below meth c D A Q nL cells slots ws (pc + 2) lv' rest) : z_W p l e R s m args below meth c D A Q nL cells slots ws pc lv (.ref x :: rest) := fun H locs ls hP hD hS hl => lv_astore Z.1 Z.2.1 hdg hl hn hl2 (fun ls2 hl3 => kk H locs ls2 hP hD hS hl3)
theorem z_iinc (Z : CallFix p m c cc nL s args z_G own) {i k : Nat} {n x : Int} {lv' : List (Nat × Value)} (hdg : decode cc pc = .ok (.iinc i n, 3)) (hk : lv[k]? = some (i, .int (z_I x))) (hn : i < nL) (hl2 : (i, Value.int (z_I (x + n))) :: lv.filter (fun q => !(q.1 == i) && !(q.1 + 1 == i && q.2.category == 2)) = lv') (kk : z_W p l e R s m args below meth c D A Q nL cells slots ws (pc + 3) lv' rest) : z_W p l e R s m args below meth c D A Q nL cells slots ws pc lv rest := fun H locs ls hP hD hS hl => lv_iinc (v := z_I (x + n)) Z.1 Z.2.1 hdg hl hk (by unfold z_I; rw [Int32.ofInt_add]) hn hl2 (fun ls2 hl3 => kk H locs ls2 hP hD hS hl3)
theorem z_dup (Z : CallFix p m c cc nL s args z_G own) {va : Value} (hdg : decode cc pc = .ok (.dup, 1)) (hva : va.category = 1) (kk : z_W p l e R s m args below meth c D A Q nL cells slots ws (pc + 1) lv (va :: va :: rest)) : z_W p l e R s m args below meth c D A Q nL cells slots ws pc lv (va :: rest) := fun H locs ls hP hD hS hl => lv_dup Z.1 Z.2.1 hdg hva (kk H locs ls hP hD hS hl)
theorem z_dup2 (Z : CallFix p m c cc nL s args z_G own) {va vb : Value} (hdg : decode cc pc = .ok (.dup2, 1)) (hva : va.category = 1) (hvb : vb.category = 1) (kk : z_W p l e R s m args below meth c D A Q nL cells slots ws (pc + 1) lv (va :: vb :: va :: vb :: rest)) : z_W p l e R s m args below meth c D A Q nL cells slots ws pc lv (va :: vb :: rest) := fun H locs ls hP hD hS hl => lv_dup2_11 Z.1 Z.2.1 hdg hva hvb (kk H locs ls hP hD hS hl)
theorem z_pop (Z : CallFix p m c cc nL s args z_G own) {va : Value} (hdg : decode cc pc = .ok (.pop, 1)) (hva : va.category = 1) (kk : z_W p l e R s m args below meth c D A Q nL cells slots ws (pc + 1) lv (rest)) : z_W p l e R s m args below meth c D A Q nL cells slots ws pc lv (va :: rest) := fun H locs ls hP hD hS hl => lv_pop Z.1 Z.2.1 hdg hva (kk H locs ls hP hD hS hl)
theorem z_iadd (Z : CallFix p m c cc nL s args z_G own) {x y : Int} (hdg : decode cc pc = .ok (.iadd, 1)) (kk : z_W p l e R s m args below meth c D A Q nL cells slots ws (pc + 1) lv (.int (z_I (x + y)) :: rest)) : z_W p l e R s m args below meth c D A Q nL cells slots ws pc lv (.int (z_I y) :: .int (z_I x) :: rest) := fun H locs ls hP hD hS hl => lv_iadd Z.1 Z.2.1 hdg (by have h9 := kk H locs ls hP hD hS hl; unfold z_I at h9 ⊢; rw [Int32.ofInt_add] at h9; exact h9)
theorem z_isub (Z : CallFix p m c cc nL s args z_G own) {x y : Int} (hdg : decode cc pc = .ok (.isub, 1)) (kk : z_W p l e R s m args below meth c D A Q nL cells slots ws (pc + 1) lv (.int (z_I (x - y)) :: rest)) : z_W p l e R s m args below meth c D A Q nL cells slots ws pc lv (.int (z_I y) :: .int (z_I x) :: rest) := fun H locs ls hP hD hS hl => lv_isub Z.1 Z.2.1 hdg (by have h9 := kk H locs ls hP hD hS hl; unfold z_I at h9 ⊢; rw [Int32.ofInt_sub] at h9; exact h9)
theorem z_imul (Z : CallFix p m c cc nL s args z_G own) {x y : Int} (hdg : decode cc pc = .ok (.imul, 1)) (kk : z_W p l e R s m args below meth c D A Q nL cells slots ws (pc + 1) lv (.int (z_I (x * y)) :: rest)) : z_W p l e R s m args below meth c D A Q nL cells slots ws pc lv (.int (z_I y) :: .int (z_I x) :: rest) := fun H locs ls hP hD hS hl => lv_imul Z.1 Z.2.1 hdg (by have h9 := kk H locs ls hP hD hS hl; unfold z_I at h9 ⊢; rw [Int32.ofInt_mul] at h9; exact h9)
theorem z_ineg (Z : CallFix p m c cc nL s args z_G own) {x : Int} (hdg : decode cc pc = .ok (.ineg, 1)) (kk : z_W p l e R s m args below meth c D A Q nL cells slots ws (pc + 1) lv (.int (z_I (-x)) :: rest)) : z_W p l e R s m args below meth c D A Q nL cells slots ws pc lv (.int (z_I x) :: rest) := fun H locs ls hP hD hS hl => lv_ineg Z.1 Z.2.1 hdg (by have h9 := kk H locs ls hP hD hS hl; unfold z_I at h9 ⊢; rw [Int32.ofInt_neg] at h9; exact h9)
theorem z_ladd (Z : CallFix p m c cc nL s args z_G own) {x y : Int} (hdg : decode cc pc = .ok (.ladd, 1)) (kk : z_W p l e R s m args below meth c D A Q nL cells slots ws (pc + 1) lv (.long (z_L (x + y)) :: rest)) : z_W p l e R s m args below meth c D A Q nL cells slots ws pc lv (.long (z_L y) :: .long (z_L x) :: rest) := fun H locs ls hP hD hS hl => lv_ladd Z.1 Z.2.1 hdg (by have h9 := kk H locs ls hP hD hS hl; unfold z_L at h9 ⊢; rw [Int64.ofInt_add] at h9; exact h9)
theorem z_lmul (Z : CallFix p m c cc nL s args z_G own) {x y : Int} (hdg : decode cc pc = .ok (.lmul, 1)) (kk : z_W p l e R s m args below meth c D A Q nL cells slots ws (pc + 1) lv (.long (z_L (x * y)) :: rest)) : z_W p l e R s m args below meth c D A Q nL cells slots ws pc lv (.long (z_L y) :: .long (z_L x) :: rest) := fun H locs ls hP hD hS hl => lv_lmul Z.1 Z.2.1 hdg (by have h9 := kk H locs ls hP hD hS hl; unfold z_L at h9 ⊢; rw [Int64.ofInt_mul] at h9; exact h9)
theorem z_iand (Z : CallFix p m c cc nL s args z_G own) {x y : Int} (hdg : decode cc pc = .ok (.iand, 1)) (kk : z_W p l e R s m args below meth c D A Q nL cells slots ws (pc + 1) lv (.int (z_I (z_and x y)) :: rest)) : z_W p l e R s m args below meth c D A Q nL cells slots ws pc lv (.int (z_I y) :: .int (z_I x) :: rest) := fun H locs ls hP hD hS hl => lv_iand Z.1 Z.2.1 hdg (by have h9 := kk H locs ls hP hD hS hl; unfold z_and at h9; rw [z_I_of] at h9; exact h9)
theorem z_ior (Z : CallFix p m c cc nL s args z_G own) {x y : Int} (hdg : decode cc pc = .ok (.ior, 1)) (kk : z_W p l e R s m args below meth c D A Q nL cells slots ws (pc + 1) lv (.int (z_I (z_or x y)) :: rest)) : z_W p l e R s m args below meth c D A Q nL cells slots ws pc lv (.int (z_I y) :: .int (z_I x) :: rest) := fun H locs ls hP hD hS hl => lv_ior Z.1 Z.2.1 hdg (by have h9 := kk H locs ls hP hD hS hl; unfold z_or at h9; rw [z_I_of] at h9; exact h9)
theorem z_ixor (Z : CallFix p m c cc nL s args z_G own) {x y : Int} (hdg : decode cc pc = .ok (.ixor, 1)) (kk : z_W p l e R s m args below meth c D A Q nL cells slots ws (pc + 1) lv (.int (z_I (z_xor x y)) :: rest)) : z_W p l e R s m args below meth c D A Q nL cells slots ws pc lv (.int (z_I y) :: .int (z_I x) :: rest) := fun H locs ls hP hD hS hl => lv_ixor Z.1 Z.2.1 hdg (by have h9 := kk H locs ls hP hD hS hl; unfold z_xor at h9; rw [z_I_of] at h9; exact h9)
theorem z_ishl (Z : CallFix p m c cc nL s args z_G own) {x y : Int} (hdg : decode cc pc = .ok (.ishl, 1)) (kk : z_W p l e R s m args below meth c D A Q nL cells slots ws (pc + 1) lv (.int (z_I (z_shl x y)) :: rest)) : z_W p l e R s m args below meth c D A Q nL cells slots ws pc lv (.int (z_I y) :: .int (z_I x) :: rest) := fun H locs ls hP hD hS hl => lv_ishl Z.1 Z.2.1 hdg (by have h9 := kk H locs ls hP hD hS hl; unfold z_shl at h9; rw [z_I_of] at h9; exact h9)
theorem z_ishr (Z : CallFix p m c cc nL s args z_G own) {x y : Int} (hdg : decode cc pc = .ok (.ishr, 1)) (kk : z_W p l e R s m args below meth c D A Q nL cells slots ws (pc + 1) lv (.int (z_I (z_shr x y)) :: rest)) : z_W p l e R s m args below meth c D A Q nL cells slots ws pc lv (.int (z_I y) :: .int (z_I x) :: rest) := fun H locs ls hP hD hS hl => lv_ishr Z.1 Z.2.1 hdg (by have h9 := kk H locs ls hP hD hS hl; unfold z_shr at h9; rw [z_I_of] at h9; exact h9)
theorem z_iushr (Z : CallFix p m c cc nL s args z_G own) {x y : Int} (hdg : decode cc pc = .ok (.iushr, 1)) (kk : z_W p l e R s m args below meth c D A Q nL cells slots ws (pc + 1) lv (.int (z_I (z_ushr x y)) :: rest)) : z_W p l e R s m args below meth c D A Q nL cells slots ws pc lv (.int (z_I y) :: .int (z_I x) :: rest) := fun H locs ls hP hD hS hl => lv_iushr Z.1 Z.2.1 hdg rfl (by have h9 := kk H locs ls hP hD hS hl; unfold z_ushr at h9; rw [z_I_of] at h9; exact h9)
theorem z_idiv (Z : CallFix p m c cc nL s args z_G own) {res : Int × zMem} {x y : Int} {K : Int → zO} (hdg : decode cc pc = .ok (.idiv, 1)) (h : z_dv x y K = some res) (kk : K (x / y) = some res → z_W p l e R s m args below meth c D A Q nL cells slots ws (pc + 1) lv (.int (z_I (x / y)) :: rest)) : z_W p l e R s m args below meth c D A Q nL cells slots ws pc lv (.int (z_I y) :: .int (z_I x) :: rest) := fun H locs ls hP hD hS hl => by
  unfold z_dv at h
  split at h
  · rename_i hc
    have hx : z_Rg x := by omega
    have hy : z_Rg y := by omega
    refine lv_idiv Z.1 Z.2.1 hdg (fun h0 => ?_) ?_
    · have h1 : (z_I y).toInt = (0 : Int32).toInt := by rw [h0]
      rw [z_I_in hy] at h1
      have h2 : (0 : Int32).toInt = 0 := rfl
      omega
    · have e : z_I x / z_I y = z_I (x / y) := by
        rw [← Int32.toInt_inj, Int32.toInt_div_of_ne_right _ _ (fun h0 => by
          have h1 : (z_I y).toInt = (-1 : Int32).toInt := by rw [h0]
          rw [z_I_in hy] at h1
          have h2 : (-1 : Int32).toInt = -1 := rfl
          omega), z_I_in hx, z_I_in hy, Int.tdiv_eq_ediv_of_nonneg hc.1.1]
        have h3 : 0 ≤ x / y := Int.ediv_nonneg hc.1.1 (by omega)
        have h4 : x / y ≤ x := Int.ediv_le_self y hc.1.1
        exact (z_I_in (by omega)).symm
      rw [e]
      exact kk h H locs ls hP hD hS hl
  · cases h
theorem z_irem (Z : CallFix p m c cc nL s args z_G own) {res : Int × zMem} {x y : Int} {K : Int → zO} (hdg : decode cc pc = .ok (.irem, 1)) (h : z_md x y K = some res) (kk : K (x % y) = some res → z_W p l e R s m args below meth c D A Q nL cells slots ws (pc + 1) lv (.int (z_I (x % y)) :: rest)) : z_W p l e R s m args below meth c D A Q nL cells slots ws pc lv (.int (z_I y) :: .int (z_I x) :: rest) := fun H locs ls hP hD hS hl => by
  unfold z_md at h
  split at h
  · rename_i hc
    have hx : z_Rg x := by omega
    have hy : z_Rg y := by omega
    refine lv_irem Z.1 Z.2.1 hdg (fun h0 => ?_) ?_
    · have h1 : (z_I y).toInt = (0 : Int32).toInt := by rw [h0]
      rw [z_I_in hy] at h1
      have h2 : (0 : Int32).toInt = 0 := rfl
      omega
    · have e : z_I x / z_I y = z_I (x / y) := by
        rw [← Int32.toInt_inj, Int32.toInt_div_of_ne_right _ _ (fun h0 => by
          have h1 : (z_I y).toInt = (-1 : Int32).toInt := by rw [h0]
          rw [z_I_in hy] at h1
          have h2 : (-1 : Int32).toInt = -1 := rfl
          omega), z_I_in hx, z_I_in hy, Int.tdiv_eq_ediv_of_nonneg hc.1.1]
        have h3 : 0 ≤ x / y := Int.ediv_nonneg hc.1.1 (by omega)
        have h4 : x / y ≤ x := Int.ediv_le_self y hc.1.1
        exact (z_I_in (by omega)).symm
      have e2 : z_I x - z_I x / z_I y * z_I y = z_I (x % y) := by
        rw [e]
        unfold z_I
        rw [← Int32.ofInt_mul, ← Int32.ofInt_sub]
        congr 1
        have := Int.ediv_mul_add_emod x y
        omega
      rw [e2]
      exact kk h H locs ls hP hD hS hl
  · cases h
theorem z_iremt (Z : CallFix p m c cc nL s args z_G own) {res : Int × zMem} {x y : Int} {K : Int → zO} (hdg : decode cc pc = .ok (.irem, 1)) (h : z_mt x y K = some res) (kk : K (Int.tmod x y) = some res → z_W p l e R s m args below meth c D A Q nL cells slots ws (pc + 1) lv (.int (z_I (Int.tmod x y)) :: rest)) : z_W p l e R s m args below meth c D A Q nL cells slots ws pc lv (.int (z_I y) :: .int (z_I x) :: rest) := fun H locs ls hP hD hS hl => by
  unfold z_mt at h
  split at h
  · rename_i hc
    have hx : z_Rg x := hc.1
    have hy : z_Rg y := by omega
    refine lv_irem Z.1 Z.2.1 hdg (fun h0 => ?_) ?_
    · have h1 : (z_I y).toInt = (0 : Int32).toInt := by rw [h0]
      rw [z_I_in hy] at h1
      have h2 : (0 : Int32).toInt = 0 := rfl
      omega
    · have e2 : z_I x - z_I x / z_I y * z_I y = z_I (Int.tmod x y) := by
        have e : z_I x / z_I y = z_I (Int.tdiv x y) := by
          have h1 : (z_I x / z_I y).toInt = Int.tdiv x y := by
            rw [Int32.toInt_div_of_ne_right _ _ (fun h0 => by
              have h1 : (z_I y).toInt = (-1 : Int32).toInt := by rw [h0]
              rw [z_I_in hy] at h1
              have h2 : (-1 : Int32).toInt = -1 := rfl
              omega), z_I_in hx, z_I_in hy]
          rw [← h1, z_I_of]
        rw [e]
        unfold z_I
        rw [← Int32.ofInt_mul, ← Int32.ofInt_sub]
        congr 1
        have := Int.tdiv_mul_add_tmod x y
        omega
      rw [e2]
      exact kk h H locs ls hP hD hS hl
  · cases h
theorem z_i2l (Z : CallFix p m c cc nL s args z_G own) {res : Int × zMem} {x : Int} {K : Int → zO} (hdg : decode cc pc = .ok (.i2l, 1)) (h : z_il x K = some res) (kk : K x = some res → z_W p l e R s m args below meth c D A Q nL cells slots ws (pc + 1) lv (.long (z_L x) :: rest)) : z_W p l e R s m args below meth c D A Q nL cells slots ws pc lv (.int (z_I x) :: rest) := fun H locs ls hP hD hS hl => by
  unfold z_il at h
  split at h
  · rename_i hc
    refine lv_i2l Z.1 Z.2.1 hdg (v := z_L x) ?_ (kk h H locs ls hP hD hS hl)
    rw [← Int64.toInt_inj, Int32.toInt_toInt64, z_I_in hc, z_L_in (by omega)]
  · cases h
theorem z_lcmp (Z : CallFix p m c cc nL s args z_G own) {res : Int × zMem} {x y : Int} {K : Int → zO} (hdg : decode cc pc = .ok (.lcmp, 1)) (h : z_lc x y K = some res) (kk : K (if y < x then 1 else if x = y then 0 else -1) = some res → z_W p l e R s m args below meth c D A Q nL cells slots ws (pc + 1) lv (.int (z_I (if y < x then 1 else if x = y then 0 else -1)) :: rest)) : z_W p l e R s m args below meth c D A Q nL cells slots ws pc lv (.long (z_L y) :: .long (z_L x) :: rest) := fun H locs ls hP hD hS hl => by
  unfold z_lc at h
  split at h
  · rename_i hc
    have h9 := kk h H locs ls hP hD hS hl
    refine W.lcmp Z.1 Z.2.1 hdg ?_
    have e : lg_cmp (z_L x) (z_L y) = z_I (if y < x then 1 else if x = y then 0 else -1) := by
      unfold lg_cmp
      by_cases g1 : y < x
      · rw [if_pos ((z_Lgt_iff hc.1 hc.2).mpr g1), if_pos g1]; rfl
      · rw [if_neg (fun z => g1 ((z_Lgt_iff hc.1 hc.2).mp z)), if_neg g1]
        by_cases g2 : x = y
        · rw [if_pos ((z_Leq_iff hc.1 hc.2).mpr g2), if_pos g2]; rfl
        · rw [if_neg (fun z => g2 ((z_Leq_iff hc.1 hc.2).mp z)), if_neg g2]; rfl
    rw [e]; exact h9
  · cases h
-- branches: what the machine compares is what the pure program compares
theorem z_icmp_eq (Z : CallFix p m c cc nL s args z_G own) {res : Int × zMem} {x y : Int} {X Y : zO} {off : Int} {tgt : Nat} (hdg : decode cc pc = .ok (.if_icmp .eq off, 3)) (ht : (pc : Int) + off = (tgt : Int)) (h : z_eq x y X Y = some res) (kt : X = some res → z_W p l e R s m args below meth c D A Q nL cells slots ws tgt lv rest) (kf : Y = some res → z_W p l e R s m args below meth c D A Q nL cells slots ws (pc + 3) lv rest) : z_W p l e R s m args below meth c D A Q nL cells slots ws pc lv (.int (z_I y) :: .int (z_I x) :: rest) := fun H locs ls hP hD hS hl => by
  obtain ⟨h1, h2, h3⟩ := z_eqd h
  have hJ : z_I x = z_I y ↔ x = y := z_eq_iff h1 h2
  refine lv_icmp_eq Z.1 Z.2.1 hdg ht (fun hc => ?_) (fun hc => ?_)
  · rcases h3 with ⟨ha, hb⟩ | ⟨ha, hb⟩
    · exact kt hb H locs ls hP hD hS hl
    · exact (by have hz := hJ; first | exact absurd (hz.mp hc) (by omega) | exact absurd (hz.mpr (by omega)) hc | exact absurd hc (hz.mpr (by omega)))
  · rcases h3 with ⟨ha, hb⟩ | ⟨ha, hb⟩
    · exact (by have hz := hJ; first | exact absurd (hz.mp hc) (by omega) | exact absurd (hz.mpr (by omega)) hc | exact absurd hc (hz.mpr (by omega)))
    · exact kf hb H locs ls hP hD hS hl
theorem z_if_eq (Z : CallFix p m c cc nL s args z_G own) {res : Int × zMem} {x : Int} {X Y : zO} {off : Int} {tgt : Nat} (hdg : decode cc pc = .ok (.ifCond .eq off, 3)) (ht : (pc : Int) + off = (tgt : Int)) (h : z_eq x 0 X Y = some res) (kt : X = some res → z_W p l e R s m args below meth c D A Q nL cells slots ws tgt lv rest) (kf : Y = some res → z_W p l e R s m args below meth c D A Q nL cells slots ws (pc + 3) lv rest) : z_W p l e R s m args below meth c D A Q nL cells slots ws pc lv (.int (z_I x) :: rest) := fun H locs ls hP hD hS hl => by
  obtain ⟨h1, h2, h3⟩ := z_eqd h
  have hJ : z_I x = z_I 0 ↔ x = 0 := z_eq_iff h1 h2
  refine lv_if_eq Z.1 Z.2.1 hdg ht (fun hc => ?_) (fun hc => ?_)
  · rcases h3 with ⟨ha, hb⟩ | ⟨ha, hb⟩
    · exact kt hb H locs ls hP hD hS hl
    · exact (by have hz := hJ; first | exact absurd (hz.mp hc) (by omega) | exact absurd (hz.mpr (by omega)) hc | exact absurd hc (hz.mpr (by omega)))
  · rcases h3 with ⟨ha, hb⟩ | ⟨ha, hb⟩
    · exact (by have hz := hJ; first | exact absurd (hz.mp hc) (by omega) | exact absurd (hz.mpr (by omega)) hc | exact absurd hc (hz.mpr (by omega)))
    · exact kf hb H locs ls hP hD hS hl
theorem z_icmp_ne (Z : CallFix p m c cc nL s args z_G own) {res : Int × zMem} {x y : Int} {X Y : zO} {off : Int} {tgt : Nat} (hdg : decode cc pc = .ok (.if_icmp .ne off, 3)) (ht : (pc : Int) + off = (tgt : Int)) (h : z_eq x y X Y = some res) (kt : Y = some res → z_W p l e R s m args below meth c D A Q nL cells slots ws tgt lv rest) (kf : X = some res → z_W p l e R s m args below meth c D A Q nL cells slots ws (pc + 3) lv rest) : z_W p l e R s m args below meth c D A Q nL cells slots ws pc lv (.int (z_I y) :: .int (z_I x) :: rest) := fun H locs ls hP hD hS hl => by
  obtain ⟨h1, h2, h3⟩ := z_eqd h
  have hJ : ¬ z_I x = z_I y ↔ ¬ x = y := not_congr (z_eq_iff h1 h2)
  refine lv_icmp_ne Z.1 Z.2.1 hdg ht (fun hc => ?_) (fun hc => ?_)
  · rcases h3 with ⟨ha, hb⟩ | ⟨ha, hb⟩
    · exact (by have hz := hJ; first | exact absurd (hz.mp hc) (by omega) | exact absurd (hz.mpr (by omega)) hc | exact absurd hc (hz.mpr (by omega)))
    · exact kt hb H locs ls hP hD hS hl
  · rcases h3 with ⟨ha, hb⟩ | ⟨ha, hb⟩
    · exact kf hb H locs ls hP hD hS hl
    · exact (by have hz := hJ; first | exact absurd (hz.mp hc) (by omega) | exact absurd (hz.mpr (by omega)) hc | exact absurd hc (hz.mpr (by omega)))
theorem z_if_ne (Z : CallFix p m c cc nL s args z_G own) {res : Int × zMem} {x : Int} {X Y : zO} {off : Int} {tgt : Nat} (hdg : decode cc pc = .ok (.ifCond .ne off, 3)) (ht : (pc : Int) + off = (tgt : Int)) (h : z_eq x 0 X Y = some res) (kt : Y = some res → z_W p l e R s m args below meth c D A Q nL cells slots ws tgt lv rest) (kf : X = some res → z_W p l e R s m args below meth c D A Q nL cells slots ws (pc + 3) lv rest) : z_W p l e R s m args below meth c D A Q nL cells slots ws pc lv (.int (z_I x) :: rest) := fun H locs ls hP hD hS hl => by
  obtain ⟨h1, h2, h3⟩ := z_eqd h
  have hJ : ¬ z_I x = z_I 0 ↔ ¬ x = 0 := not_congr (z_eq_iff h1 h2)
  refine lv_if_ne Z.1 Z.2.1 hdg ht (fun hc => ?_) (fun hc => ?_)
  · rcases h3 with ⟨ha, hb⟩ | ⟨ha, hb⟩
    · exact (by have hz := hJ; first | exact absurd (hz.mp hc) (by omega) | exact absurd (hz.mpr (by omega)) hc | exact absurd hc (hz.mpr (by omega)))
    · exact kt hb H locs ls hP hD hS hl
  · rcases h3 with ⟨ha, hb⟩ | ⟨ha, hb⟩
    · exact kf hb H locs ls hP hD hS hl
    · exact (by have hz := hJ; first | exact absurd (hz.mp hc) (by omega) | exact absurd (hz.mpr (by omega)) hc | exact absurd hc (hz.mpr (by omega)))
theorem z_icmp_lt (Z : CallFix p m c cc nL s args z_G own) {res : Int × zMem} {x y : Int} {X Y : zO} {off : Int} {tgt : Nat} (hdg : decode cc pc = .ok (.if_icmp .lt off, 3)) (ht : (pc : Int) + off = (tgt : Int)) (h : z_le y x X Y = some res) (kt : Y = some res → z_W p l e R s m args below meth c D A Q nL cells slots ws tgt lv rest) (kf : X = some res → z_W p l e R s m args below meth c D A Q nL cells slots ws (pc + 3) lv rest) : z_W p l e R s m args below meth c D A Q nL cells slots ws pc lv (.int (z_I y) :: .int (z_I x) :: rest) := fun H locs ls hP hD hS hl => by
  obtain ⟨h1, h2, h3⟩ := z_led h
  have hJ : z_I x < z_I y ↔ x < y := z_lt_iff h2 h1
  refine lv_icmp_lt Z.1 Z.2.1 hdg ht (fun hc => ?_) (fun hc => ?_)
  · rcases h3 with ⟨ha, hb⟩ | ⟨ha, hb⟩
    · exact (by have hz := hJ; first | exact absurd (hz.mp hc) (by omega) | exact absurd (hz.mpr (by omega)) hc | exact absurd hc (hz.mpr (by omega)))
    · exact kt hb H locs ls hP hD hS hl
  · rcases h3 with ⟨ha, hb⟩ | ⟨ha, hb⟩
    · exact kf hb H locs ls hP hD hS hl
    · exact (by have hz := hJ; first | exact absurd (hz.mp hc) (by omega) | exact absurd (hz.mpr (by omega)) hc | exact absurd hc (hz.mpr (by omega)))
theorem z_if_lt (Z : CallFix p m c cc nL s args z_G own) {res : Int × zMem} {x : Int} {X Y : zO} {off : Int} {tgt : Nat} (hdg : decode cc pc = .ok (.ifCond .lt off, 3)) (ht : (pc : Int) + off = (tgt : Int)) (h : z_le 0 x X Y = some res) (kt : Y = some res → z_W p l e R s m args below meth c D A Q nL cells slots ws tgt lv rest) (kf : X = some res → z_W p l e R s m args below meth c D A Q nL cells slots ws (pc + 3) lv rest) : z_W p l e R s m args below meth c D A Q nL cells slots ws pc lv (.int (z_I x) :: rest) := fun H locs ls hP hD hS hl => by
  obtain ⟨h1, h2, h3⟩ := z_led h
  have hJ : z_I x < z_I 0 ↔ x < 0 := z_lt_iff h2 h1
  refine lv_if_lt Z.1 Z.2.1 hdg ht (fun hc => ?_) (fun hc => ?_)
  · rcases h3 with ⟨ha, hb⟩ | ⟨ha, hb⟩
    · exact (by have hz := hJ; first | exact absurd (hz.mp hc) (by omega) | exact absurd (hz.mpr (by omega)) hc | exact absurd hc (hz.mpr (by omega)))
    · exact kt hb H locs ls hP hD hS hl
  · rcases h3 with ⟨ha, hb⟩ | ⟨ha, hb⟩
    · exact kf hb H locs ls hP hD hS hl
    · exact (by have hz := hJ; first | exact absurd (hz.mp hc) (by omega) | exact absurd (hz.mpr (by omega)) hc | exact absurd hc (hz.mpr (by omega)))
theorem z_icmp_ge (Z : CallFix p m c cc nL s args z_G own) {res : Int × zMem} {x y : Int} {X Y : zO} {off : Int} {tgt : Nat} (hdg : decode cc pc = .ok (.if_icmp .ge off, 3)) (ht : (pc : Int) + off = (tgt : Int)) (h : z_lt x y X Y = some res) (kt : Y = some res → z_W p l e R s m args below meth c D A Q nL cells slots ws tgt lv rest) (kf : X = some res → z_W p l e R s m args below meth c D A Q nL cells slots ws (pc + 3) lv rest) : z_W p l e R s m args below meth c D A Q nL cells slots ws pc lv (.int (z_I y) :: .int (z_I x) :: rest) := fun H locs ls hP hD hS hl => by
  obtain ⟨h1, h2, h3⟩ := z_ltd h
  have hJ : z_I y ≤ z_I x ↔ y ≤ x := z_le_iff h2 h1
  refine lv_icmp_ge Z.1 Z.2.1 hdg ht (fun hc => ?_) (fun hc => ?_)
  · rcases h3 with ⟨ha, hb⟩ | ⟨ha, hb⟩
    · exact (by have hz := hJ; first | exact absurd (hz.mp hc) (by omega) | exact absurd (hz.mpr (by omega)) hc | exact absurd hc (hz.mpr (by omega)))
    · exact kt hb H locs ls hP hD hS hl
  · rcases h3 with ⟨ha, hb⟩ | ⟨ha, hb⟩
    · exact kf hb H locs ls hP hD hS hl
    · exact (by have hz := hJ; first | exact absurd (hz.mp hc) (by omega) | exact absurd (hz.mpr (by omega)) hc | exact absurd hc (hz.mpr (by omega)))
theorem z_if_ge (Z : CallFix p m c cc nL s args z_G own) {res : Int × zMem} {x : Int} {X Y : zO} {off : Int} {tgt : Nat} (hdg : decode cc pc = .ok (.ifCond .ge off, 3)) (ht : (pc : Int) + off = (tgt : Int)) (h : z_lt x 0 X Y = some res) (kt : Y = some res → z_W p l e R s m args below meth c D A Q nL cells slots ws tgt lv rest) (kf : X = some res → z_W p l e R s m args below meth c D A Q nL cells slots ws (pc + 3) lv rest) : z_W p l e R s m args below meth c D A Q nL cells slots ws pc lv (.int (z_I x) :: rest) := fun H locs ls hP hD hS hl => by
  obtain ⟨h1, h2, h3⟩ := z_ltd h
  have hJ : z_I 0 ≤ z_I x ↔ 0 ≤ x := z_le_iff h2 h1
  refine lv_if_ge Z.1 Z.2.1 hdg ht (fun hc => ?_) (fun hc => ?_)
  · rcases h3 with ⟨ha, hb⟩ | ⟨ha, hb⟩
    · exact (by have hz := hJ; first | exact absurd (hz.mp hc) (by omega) | exact absurd (hz.mpr (by omega)) hc | exact absurd hc (hz.mpr (by omega)))
    · exact kt hb H locs ls hP hD hS hl
  · rcases h3 with ⟨ha, hb⟩ | ⟨ha, hb⟩
    · exact kf hb H locs ls hP hD hS hl
    · exact (by have hz := hJ; first | exact absurd (hz.mp hc) (by omega) | exact absurd (hz.mpr (by omega)) hc | exact absurd hc (hz.mpr (by omega)))
theorem z_icmp_gt (Z : CallFix p m c cc nL s args z_G own) {res : Int × zMem} {x y : Int} {X Y : zO} {off : Int} {tgt : Nat} (hdg : decode cc pc = .ok (.if_icmp .gt off, 3)) (ht : (pc : Int) + off = (tgt : Int)) (h : z_le x y X Y = some res) (kt : Y = some res → z_W p l e R s m args below meth c D A Q nL cells slots ws tgt lv rest) (kf : X = some res → z_W p l e R s m args below meth c D A Q nL cells slots ws (pc + 3) lv rest) : z_W p l e R s m args below meth c D A Q nL cells slots ws pc lv (.int (z_I y) :: .int (z_I x) :: rest) := fun H locs ls hP hD hS hl => by
  obtain ⟨h1, h2, h3⟩ := z_led h
  have hJ : z_I y < z_I x ↔ y < x := z_lt_iff h2 h1
  refine lv_icmp_gt Z.1 Z.2.1 hdg ht (fun hc => ?_) (fun hc => ?_)
  · rcases h3 with ⟨ha, hb⟩ | ⟨ha, hb⟩
    · exact (by have hz := hJ; first | exact absurd (hz.mp hc) (by omega) | exact absurd (hz.mpr (by omega)) hc | exact absurd hc (hz.mpr (by omega)))
    · exact kt hb H locs ls hP hD hS hl
  · rcases h3 with ⟨ha, hb⟩ | ⟨ha, hb⟩
    · exact kf hb H locs ls hP hD hS hl
    · exact (by have hz := hJ; first | exact absurd (hz.mp hc) (by omega) | exact absurd (hz.mpr (by omega)) hc | exact absurd hc (hz.mpr (by omega)))
theorem z_if_gt (Z : CallFix p m c cc nL s args z_G own) {res : Int × zMem} {x : Int} {X Y : zO} {off : Int} {tgt : Nat} (hdg : decode cc pc = .ok (.ifCond .gt off, 3)) (ht : (pc : Int) + off = (tgt : Int)) (h : z_le x 0 X Y = some res) (kt : Y = some res → z_W p l e R s m args below meth c D A Q nL cells slots ws tgt lv rest) (kf : X = some res → z_W p l e R s m args below meth c D A Q nL cells slots ws (pc + 3) lv rest) : z_W p l e R s m args below meth c D A Q nL cells slots ws pc lv (.int (z_I x) :: rest) := fun H locs ls hP hD hS hl => by
  obtain ⟨h1, h2, h3⟩ := z_led h
  have hJ : z_I 0 < z_I x ↔ 0 < x := z_lt_iff h2 h1
  refine lv_if_gt Z.1 Z.2.1 hdg ht (fun hc => ?_) (fun hc => ?_)
  · rcases h3 with ⟨ha, hb⟩ | ⟨ha, hb⟩
    · exact (by have hz := hJ; first | exact absurd (hz.mp hc) (by omega) | exact absurd (hz.mpr (by omega)) hc | exact absurd hc (hz.mpr (by omega)))
    · exact kt hb H locs ls hP hD hS hl
  · rcases h3 with ⟨ha, hb⟩ | ⟨ha, hb⟩
    · exact kf hb H locs ls hP hD hS hl
    · exact (by have hz := hJ; first | exact absurd (hz.mp hc) (by omega) | exact absurd (hz.mpr (by omega)) hc | exact absurd hc (hz.mpr (by omega)))
theorem z_icmp_le (Z : CallFix p m c cc nL s args z_G own) {res : Int × zMem} {x y : Int} {X Y : zO} {off : Int} {tgt : Nat} (hdg : decode cc pc = .ok (.if_icmp .le off, 3)) (ht : (pc : Int) + off = (tgt : Int)) (h : z_lt y x X Y = some res) (kt : Y = some res → z_W p l e R s m args below meth c D A Q nL cells slots ws tgt lv rest) (kf : X = some res → z_W p l e R s m args below meth c D A Q nL cells slots ws (pc + 3) lv rest) : z_W p l e R s m args below meth c D A Q nL cells slots ws pc lv (.int (z_I y) :: .int (z_I x) :: rest) := fun H locs ls hP hD hS hl => by
  obtain ⟨h1, h2, h3⟩ := z_ltd h
  have hJ : z_I x ≤ z_I y ↔ x ≤ y := z_le_iff h2 h1
  refine lv_icmp_le Z.1 Z.2.1 hdg ht (fun hc => ?_) (fun hc => ?_)
  · rcases h3 with ⟨ha, hb⟩ | ⟨ha, hb⟩
    · exact (by have hz := hJ; first | exact absurd (hz.mp hc) (by omega) | exact absurd (hz.mpr (by omega)) hc | exact absurd hc (hz.mpr (by omega)))
    · exact kt hb H locs ls hP hD hS hl
  · rcases h3 with ⟨ha, hb⟩ | ⟨ha, hb⟩
    · exact kf hb H locs ls hP hD hS hl
    · exact (by have hz := hJ; first | exact absurd (hz.mp hc) (by omega) | exact absurd (hz.mpr (by omega)) hc | exact absurd hc (hz.mpr (by omega)))
theorem z_if_le (Z : CallFix p m c cc nL s args z_G own) {res : Int × zMem} {x : Int} {X Y : zO} {off : Int} {tgt : Nat} (hdg : decode cc pc = .ok (.ifCond .le off, 3)) (ht : (pc : Int) + off = (tgt : Int)) (h : z_lt 0 x X Y = some res) (kt : Y = some res → z_W p l e R s m args below meth c D A Q nL cells slots ws tgt lv rest) (kf : X = some res → z_W p l e R s m args below meth c D A Q nL cells slots ws (pc + 3) lv rest) : z_W p l e R s m args below meth c D A Q nL cells slots ws pc lv (.int (z_I x) :: rest) := fun H locs ls hP hD hS hl => by
  obtain ⟨h1, h2, h3⟩ := z_ltd h
  have hJ : z_I x ≤ z_I 0 ↔ x ≤ 0 := z_le_iff h2 h1
  refine lv_if_le Z.1 Z.2.1 hdg ht (fun hc => ?_) (fun hc => ?_)
  · rcases h3 with ⟨ha, hb⟩ | ⟨ha, hb⟩
    · exact (by have hz := hJ; first | exact absurd (hz.mp hc) (by omega) | exact absurd (hz.mpr (by omega)) hc | exact absurd hc (hz.mpr (by omega)))
    · exact kt hb H locs ls hP hD hS hl
  · rcases h3 with ⟨ha, hb⟩ | ⟨ha, hb⟩
    · exact kf hb H locs ls hP hD hS hl
    · exact (by have hz := hJ; first | exact absurd (hz.mp hc) (by omega) | exact absurd (hz.mpr (by omega)) hc | exact absurd hc (hz.mpr (by omega)))
theorem z_goto (Z : CallFix p m c cc nL s args z_G own) {off : Int} {tgt : Nat} (hdg : decode cc pc = .ok (.goto off, 3)) (ht : (pc : Int) + off = (tgt : Int)) (kk : z_W p l e R s m args below meth c D A Q nL cells slots ws tgt lv rest) : z_W p l e R s m args below meth c D A Q nL cells slots ws pc lv rest := fun H locs ls hP hD hS hl => lv_goto Z.1 Z.2.1 hdg ht (kk H locs ls hP hD hS hl)
theorem z_tableIn (Z : CallFix p m c cc nL s args z_G own) {dflt lo hi : Int} {offs : Array Int} {len : Nat} {x off : Int} {tgt : Nat} (hdg : decode cc pc = .ok (.tableswitch dflt lo hi offs, len)) (hx : z_Rg x) (h1 : ¬ x < lo) (h2 : ¬ hi < x) (ho : offs[(x - lo).toNat]? = some off) (ht : (pc : Int) + off = (tgt : Int)) (kk : z_W p l e R s m args below meth c D A Q nL cells slots ws tgt lv rest) : z_W p l e R s m args below meth c D A Q nL cells slots ws pc lv (.int (z_I x) :: rest) := fun H locs ls hP hD hS hl => lv_tableIn Z.1 Z.2.1 hdg (by rw [z_I_in hx]; exact h1) (by rw [z_I_in hx]; exact h2) (by rw [z_I_in hx]; exact ho) ht (kk H locs ls hP hD hS hl)
theorem z_tableOut (Z : CallFix p m c cc nL s args z_G own) {dflt lo hi : Int} {offs : Array Int} {len : Nat} {x : Int} {tgt : Nat} (hdg : decode cc pc = .ok (.tableswitch dflt lo hi offs, len)) (hx : z_Rg x) (h : x < lo ∨ hi < x) (ht : (pc : Int) + dflt = (tgt : Int)) (kk : z_W p l e R s m args below meth c D A Q nL cells slots ws tgt lv rest) : z_W p l e R s m args below meth c D A Q nL cells slots ws pc lv (.int (z_I x) :: rest) := fun H locs ls hP hD hS hl => lv_tableOut Z.1 Z.2.1 hdg (by rw [z_I_in hx]; exact h) ht (kk H locs ls hP hD hS hl)
theorem z_lookup (Z : CallFix p m c cc nL s args z_G own) {dflt : Int} {ps : Array (Int × Int)} {len : Nat} {x off : Int} {tgt : Nat} (hdg : decode cc pc = .ok (.lookupswitch dflt ps, len)) (hx : z_Rg x) (hp : (ps.toList.zip (ps.toList.drop 1)).all (fun (a, next) => a.1 < next.1) = true) (ho : Op.lookupswitch.offset ps.toList dflt x = off) (ht : (pc : Int) + off = (tgt : Int)) (kk : z_W p l e R s m args below meth c D A Q nL cells slots ws tgt lv rest) : z_W p l e R s m args below meth c D A Q nL cells slots ws pc lv (.int (z_I x) :: rest) := fun H locs ls hP hD hS hl => lv_lookup Z.1 Z.2.1 hdg hp (by rw [z_I_in hx]; exact ho) ht (kk H locs ls hP hD hS hl)
theorem z_sub {lv' : List (Nat × Value)} {st : List Value} (ks : List Nat) (hk : lv_pick lv ks = lv') (kk : z_W p l e R s m args below meth c D A Q nL cells slots ws pc lv' st) : z_W p l e R s m args below meth c D A Q nL cells slots ws pc lv st := fun H locs ls hP hD hS hl => kk H locs ls hP hD hS (lv_sub hl ks hk)
end ZR
end
section
/-! the launch's constants -/
def z_sOwn : List String := ["DrumPlacer$Reader", "DrumPlacer$Reader", "DrumPlacer$Reader", "DrumPlacer$Reader", "DrumPlacer$Reader", "DrumPlacer$Reader", "DrumPlacer$Reader", "DrumPlacer$Tokens", "DrumPlacer$Tokens", "DrumPlacer$Tokens", "DrumPlacer$Tokens", "DrumPlacer$Tokens", "DrumPlacer$Tokens", "DrumPlacer$Tokens", "DrumPlacer$Tokens", "DrumPlacer$Tokens", "DrumPlacer$Tokens", "DrumPlacer$Tokens", "DrumPlacer$Tokens", "DrumPlacer$Reader", "DrumPlacer$Reader", "DrumPlacerModel", "DrumPlacerModel", "DrumPlacerModel", "DrumPlacerModel", "DrumPlacerModel", "DrumPlacerModel"]
def z_sIdx : List Nat := [87, 93, 101, 105, 219, 116, 59, 70, 76, 78, 80, 82, 84, 86, 88, 90, 92, 94, 96, 224, 150, 130, 169, 175, 177, 179, 185]
def z_sTxt : List String := ["drum", "tracks", "sectors", "wait", "quick", "mul", "word", "drum", "word", "step", "at", "load", "add", "sub", "mul", "store", "less", "move", "halt", "at", "step", " load add sub mul store less move halt drum word step at ", "tracks", "sectors", "wait", "quick", "mul"]
def z_sCh : List (List Int) := [[100, 114, 117, 109], [116, 114, 97, 99, 107, 115], [115, 101, 99, 116, 111, 114, 115], [119, 97, 105, 116], [113, 117, 105, 99, 107], [109, 117, 108], [119, 111, 114, 100], [100, 114, 117, 109], [119, 111, 114, 100], [115, 116, 101, 112], [97, 116], [108, 111, 97, 100], [97, 100, 100], [115, 117, 98], [109, 117, 108], [115, 116, 111, 114, 101], [108, 101, 115, 115], [109, 111, 118, 101], [104, 97, 108, 116], [97, 116], [115, 116, 101, 112], [32, 108, 111, 97, 100, 32, 97, 100, 100, 32, 115, 117, 98, 32, 109, 117, 108, 32, 115, 116, 111, 114, 101, 32, 108, 101, 115, 115, 32, 109, 111, 118, 101, 32, 104, 97, 108, 116, 32, 100, 114, 117, 109, 32, 119, 111, 114, 100, 32, 115, 116, 101, 112, 32, 97, 116, 32], [116, 114, 97, 99, 107, 115], [115, 101, 99, 116, 111, 114, 115], [119, 97, 105, 116], [113, 117, 105, 99, 107], [109, 117, 108]]
def z_nest : List Cond := [.methodLinkNest "DrumPlacer" 9 ⟨"DrumPlacer$Tape", "<init>", "()V"⟩ "DrumPlacer", .methodLinkNest "DrumPlacer" 12 ⟨"DrumPlacer$Plan", "<init>", "()V"⟩ "DrumPlacer", .methodLinkNest "DrumPlacer" 73 ⟨"DrumPlacer$Acts", "<init>", "()V"⟩ "DrumPlacer", .methodLinkNest "DrumPlacer$Reader" 220 ⟨"DrumPlacer", "isQuick", "(II)Z"⟩ "DrumPlacer", .methodLinkNest "DrumPlacer$Plan" 67 ⟨"DrumPlacer", "copyItems", "([I[I)V"⟩ "DrumPlacer", .methodLinkNest "DrumPlacer$Trace" 70 ⟨"DrumPlacer", "copyItems", "([I[I)V"⟩ "DrumPlacer", .methodLinkNest "DrumPlacer$Search" 119 ⟨"DrumPlacer", "copyItems", "([I[I)V"⟩ "DrumPlacer"]
def z_slen (i : Nat) : Int := ((z_sCh.getD i []).length : Int)
def z_schr (i : Nat) (j : Int) : Int := (z_sCh.getD i []).getD j.toNat 0
def z_kw (adK adV : Nat → Nat) (A : Nat → Prop) (U : State) (H : Heap) : Prop :=
  (∀ i : Nat, i < 27 → va_O "java/lang/String" (adK i) A U H ∧ va_OF "java/lang/String" "coder" "B" (.int 0) (adK i) A U H ∧ va_OF "java/lang/String" "value" "[B" (.ref (adV i)) (adK i) A U H ∧ va_T .byte (adV i) (z_sCh.getD i []).length (fun j => .int (z_I ((z_sCh.getD i []).getD j 0))) A U H) ∧
  (∀ i : Nat, i < 27 → vk_R (z_sOwn.getD i "") (z_sIdx.getD i 0) (z_sTxt.getD i "") (adK i) U) ∧
  va_Z "java/lang/String" "COMPACT_STRINGS" "Z" (.int 1) A U H ∧
  va_Zq "jdk/internal/util/Preconditions" "SIOOBE_FORMATTER" "Ljava/util/function/BiFunction;" A U H ∧
  ∀ w ∈ z_nest, va_Nw w U
theorem z_nest_warm {s U : State} (hW : s.WarmedH U.vm) : ∀ w ∈ z_nest, va_Nw w s → va_Nw w U := by
  intro w hw h
  simp only [z_nest, List.mem_cons, List.not_mem_nil, or_false] at hw
  rcases hw with rfl | rfl | rfl | rfl | rfl | rfl | rfl <;> exact va_Nw.warmM hW h
theorem z_nest_same {u U : State} (hv : u.vm = U.vm) : ∀ w ∈ z_nest, va_Nw w u → va_Nw w U := by
  intro w hw h
  simp only [z_nest, List.mem_cons, List.not_mem_nil, or_false] at hw
  rcases hw with rfl | rfl | rfl | rfl | rfl | rfl | rfl <;> exact va_Nw.same rfl hv h
theorem z_kw_go {adK adV : Nat → Nat} {A B : Nat → Prop} {s U : State} {H : Heap} {locs : List Loc} (h : z_kw adK adV A s s.heap) (hS : va_S A s.heap H locs) (hU : U.heap = H) (hW : s.WarmedH U.vm) (hAB : ∀ q, B q → A q) : z_kw adK adV B U U.heap := by
  obtain ⟨h1, h2, h3, h4, h5⟩ := h
  rw [hU]
  refine ⟨fun i hi => ?_, fun i hi => vk_R.warm hW (h2 i hi), ((va_Z.moved hW.alike h3).kept hS.2.1).narrow hAB, ((va_Zq.moved hW.alike h4).kept hS.2.1).narrow hAB, fun w hw => z_nest_warm hW w hw (h5 w hw)⟩
  obtain ⟨a1, a2, a3, a4⟩ := h1 i hi
  exact ⟨((va_O.moved hW.alike a1).kept hS.2.1).narrow hAB, ((va_OF.moved hW.alike a2).kept hS.2.1).narrow hAB, ((va_OF.moved hW.alike a3).kept hS.2.1).narrow hAB, ((va_T.moved hW.alike a4).kept hS.2.1).narrow hAB⟩
theorem z_kw_calling {adK adV : Nat → Nat} {A : Nat → Prop} {U : State} {g : JFrame} {mk : MethodId} {a : Array Value} (h : z_kw adK adV A U U.heap) : z_kw adK adV A (U.calling g mk a) (U.calling g mk a).heap := by
  obtain ⟨h1, h2, h3, h4, h5⟩ := h
  refine ⟨fun i hi => ?_, fun i hi => vk_R.same (u := U) rfl (h2 i hi), va_Z.moved (u := U) (Vm.Alike.refl U.vm) h3, va_Zq.moved (u := U) (Vm.Alike.refl U.vm) h4, fun w hw => z_nest_same (u := U) (U := U.calling g mk a) rfl w hw (h5 w hw)⟩
  obtain ⟨a1, a2, a3, a4⟩ := h1 i hi
  exact ⟨va_O.moved (u := U) (Vm.Alike.refl U.vm) a1, va_OF.moved (u := U) (Vm.Alike.refl U.vm) a2, va_OF.moved (u := U) (Vm.Alike.refl U.vm) a3, va_T.moved (u := U) (Vm.Alike.refl U.vm) a4⟩
/-! contracts over a world of a memory -/
abbrev z_tys (cI cZ : ClassId) : List (ClassId × FieldType) := [(cI, .int), (cZ, .boolean)]
def z_pre (Wd : zMem → va_W) (D : va_G) (cI cZ : ClassId) (adK adV : Nat → Nat) (M : zMem) (sz : Nat) (U : State) : Prop :=
  U.heap.size = sz ∧ va_P D vwCl (Wd M) U.heap ∧ va_K D vwCl (z_tys cI cZ) U ∧ va_D (fun _ => True) (Wd M) ∧ z_kw adK adV (va_A (Wd M) sz) U U.heap
def z_Q (Wd : zMem → va_W) (D : va_G) (cI cZ : ClassId) (M' : zMem) (A : Nat → Prop) (rv : Option Value) : Array Value → State → Outcome → State → Prop := fun _ st oc t =>
  oc = .returned rv ∧ va_P D vwCl (Wd M') t.heap ∧ va_K D vwCl (z_tys cI cZ) t ∧ va_D A (Wd M') ∧ va_F A st t
def z_Ct (Wd : zMem → va_W) (D : va_G) (cI cZ : ClassId) (adK adV : Nat → Nat) (l : Launch) (y : MethodName) (cc : ByteArray) (maxL : Nat) (ret : Option FieldType) (lev : Nat) (As : List Value) (M M' : zMem) (rv : Option Value) : Prop :=
  ∀ sz : Nat, Met l y (.code y cc maxL ret :: z_G) { frames := lev, cells := 0, slots := 0, locals := 64 * lev } (va_Pc As (z_pre Wd D cI cZ adK adV M sz)) (z_Q Wd D cI cZ M' (va_A (Wd M) sz) rv) 0 0 (va_A (Wd M) sz)
def z_X (p : Program) (m : MethodId) (c : Code) (cc : ByteArray) (nL : Nat) (s : State) (args : Array Value) (own : String) (R : Room) (lev : Nat) (D : va_G) (cI cZ : ClassId) (A : Nat → Prop) (adK adV : Nat → Nat) : Prop :=
  CallFix p m c cc nL s args z_G own ∧ va_K D vwCl (z_tys cI cZ) s ∧ (∀ q, s.heap.size ≤ q → A q) ∧ z_kw adK adV A s s.heap ∧ lev ≤ R.frames ∧ 64 * lev ≤ R.locals
theorem z_blind {Wd : zMem → va_W} {D : va_G} {cI cZ : ClassId} {adK adV : Nat → Nat} {M : zMem} {sz : Nat} {As : List Value} : FrameBlind (va_Pc As (z_pre Wd D cI cZ adK adV M sz)) := by
  intro a U g mk h
  obtain ⟨h0, h1, h2, h3, h4, h5⟩ := h
  exact ⟨h0, h1, h2, va_K.moved (u := U) (U := U.calling g mk a) (Vm.Alike.refl U.vm) h3, h4, z_kw_calling h5⟩
section ZE
variable {l : Launch} {y : MethodName} {cc : ByteArray} {maxL : Nat} {ret : Option FieldType} {lev : Nat} {D : va_G} {cI cZ : ClassId} {adK adV : Nat → Nat} {Wd : zMem → va_W} {M M' : zMem} {rv : Option Value} {As : List Value}
theorem z_entry {own : String} (ho : y.cls = own) (hy : plainName y.cls = true) (hn : (lg_sl As).length ≤ maxL)
    (body : ∀ (p : Program) (e : Env) (s : State) (m : MethodId) (args : Array Value) (below : List Frame) (meth : Method) (c : Code) (R : Room) (A : Nat → Prop), z_X p m c cc maxL s args own R lev D cI cZ A adK adV → meth.sig.returnType = ret → meth.locks = false →
      z_W p l e R s m args below meth c D A (MQ below (z_Q Wd D cI cZ M' A rv) args s 0 0 A) maxL 0 0 (Wd M) 0 (lv_args 0 As) []) : z_Ct Wd D cI cZ adK adV l y cc maxL ret lev As M M' rv := by
  intro sz
  refine Met.ofW (cc := cc) (maxL := maxL) (ret := ret) hy rfl ?_
  intro p e s m args below meth c s₁ B hml hv
  obtain ⟨rfl, hsz, hP, hK, hD0, hE⟩ := hv
  have hts := atoms_spec (ws := .code y cc maxL ret :: z_G) B.pre
  have hown : s.vm.findClass own = some m.cls := by rw [← ho]; exact findClass_of_methodNamed B.named
  subst hsz
  have hD := hD0.self (sz := s.heap.size)
  have hl := lv_entry As (n := maxL) hn
  rw [lg_entry_eq]
  exact body p e s m _ below meth c _ _ ⟨⟨B.exec, B.bytes, hml, hown, fun w hw => hts w (List.mem_cons_of_mem _ hw)⟩, hK, fun q h => Or.inr h, hE, Nat.le_refl _, Nat.le_refl _⟩ B.returns B.notSynchronized _ _ _ hP hD va_S.rf hl
end ZE
section ZH
variable {p : Program} {l : Launch} {e : Env} {R : Room} {s : State} {m : MethodId} {args : Array Value} {below : List Frame} {meth : Method} {c : Code} {Q : State → Prop} {cells slots : Nat} {D : va_G} {A : Nat → Prop} {nL : Nat} {ws ws' : va_W} {cc : ByteArray} {pc : Nat} {lv : List (Nat × Value)} {rest : List Value} {own : String} {lev : Nat} {cI cZ : ClassId} {adK adV : Nat → Nat}
theorem z_get (X : z_X p m c cc nL s args own R lev D cI cZ A adK adV) {q0 a ci index N : Nat} {C ref : String} {T : u_T} {fs : List Value} {v : Value} (hin : ∀ w ∈ u_ws C T N, w ∈ z_G) (he : ws[q0]? = some (a, .inr (ci, fs))) (hc : vwCl[ci]? = some (C, T, N)) (k : Nat) (hk : k < N) (hlink : Cond.fieldLink own index ref (T k).2.1 (T k).2.2.1 ∈ z_G) (href : ref = (T k).1) (hv : fs[k]? = some v) (hdg : decode cc pc = .ok (.getfield index, 3))
    (kk : z_W p l e R s m args below meth c D A Q nL cells slots ws (pc + 3) lv (v :: rest)) : z_W p l e R s m args below meth c D A Q nL cells slots ws pc lv (.ref a :: rest) := fun H locs ls hP hD hS hl => by
  subst href
  exact va_get (D := D) (C := C) (T := T) (N := N) X.1.1 X.1.2.1 X.1.2.2.2.2 hin X.1.2.2.2.1 X.2.1 hP q0 he hc k hk (X.1.2.2.2.2 _ hlink) (fun _ h => h) hv hdg (kk H locs ls hP hD hS hl)
theorem z_put (X : z_X p m c cc nL s args own R lev D cI cZ A adK adV) {q0 a ci index N : Nat} {C ref : String} {T : u_T} {fs : List Value} {v : Value} (hin : ∀ w ∈ u_ws C T N, w ∈ z_G) (ty0 : Nat → FieldType) (hty : ∀ k, k < N → parseFieldDescriptor (T k).2.2.1 = some (ty0 k)) (hnm : ∀ a, a < N → ∀ b, b < N → a ≠ b → (T a).2.1 ≠ (T b).2.1) (he : ws[q0]? = some (a, .inr (ci, fs))) (hc : vwCl[ci]? = some (C, T, N)) (k : Nat) (hk : k < N) (hlink : Cond.fieldLink own index ref (T k).2.1 (T k).2.2.1 ∈ z_G) (href : ref = (T k).1) (hfin : (T k).2.2.2 = false) (hn : narrow (ty0 k) v = v) (hfit : fits (ty0 k) v = true) (hl0 : k < fs.length) (hset : ws.set q0 (a, .inr (ci, fs.set k v)) = ws') (hdg : decode cc pc = .ok (.putfield index, 3))
    (kk : z_W p l e R s m args below meth c D A Q nL cells slots ws' (pc + 3) lv rest) : z_W p l e R s m args below meth c D A Q nL cells slots ws pc lv (v :: .ref a :: rest) := fun H locs ls hP hD hS hl => by
  subst href
  exact va_put (D := D) (C := C) (T := T) (N := N) X.1.1 X.1.2.1 X.1.2.2.2.2 hin ty0 hty hnm X.1.2.2.2.1 X.2.1 hP hD hS q0 he hc k hk (X.1.2.2.2.2 _ hlink) (fun _ h => h) hfin (hty k hk) hn hfit hl0 hdg (fun H1 locs1 g1 g2 g3 => kk H1 locs1 ls (by rw [hset] at g1; exact g1) (by rw [hset] at g2; exact g2) g3 hl)
theorem z_iald (X : z_X p m c cc nL s args own R lev D cI cZ A adK adV) {res : Int × zMem} {M : zMem} {q0 q1 a n : Nat} {nn i : Int} {K : Int → zO} (ha : ws[q1]? = some (a, .inl (cI, n, .inl (fun j : Nat => z_I (M q0 (j : Int)))))) (hn : nn = (n : Int)) (hn2 : n < 2147483648) (hdg : decode cc pc = .ok (.iaload, 1)) (h : z_rd M q0 nn i K = some res)
    (kk : K (M q0 i) = some res → z_W p l e R s m args below meth c D A Q nL cells slots ws (pc + 1) lv (.int (z_I (M q0 i)) :: rest)) : z_W p l e R s m args below meth c D A Q nL cells slots ws pc lv (.int (z_I i) :: .ref a :: rest) := fun H locs ls hP hD hS hl => by
  unfold z_rd at h
  split at h
  · rename_i hc
    subst hn
    have hr : z_Rg i := by omega
    have e : (((z_I i).toNatClampNeg : Nat) : Int) = i := by rw [z_nat hr]; omega
    refine va_iald (D := D) X.1.1 X.1.2.1 X.2.1 hP q1 0 ha rfl (z_vin hc hn2) hdg ?_
    simp only [e]
    exact kk h H locs ls hP hD hS hl
  · cases h
theorem z_zald (X : z_X p m c cc nL s args own R lev D cI cZ A adK adV) {res : Int × zMem} {M : zMem} {q0 q1 a n : Nat} {nn i : Int} {K : Int → zO} (ha : ws[q1]? = some (a, .inl (cZ, n, .inl (fun j : Nat => z_I (M q0 (j : Int)))))) (hn : nn = (n : Int)) (hn2 : n < 2147483648) (hdg : decode cc pc = .ok (.baload, 1)) (h : z_rd M q0 nn i K = some res)
    (kk : K (M q0 i) = some res → z_W p l e R s m args below meth c D A Q nL cells slots ws (pc + 1) lv (.int (z_I (M q0 i)) :: rest)) : z_W p l e R s m args below meth c D A Q nL cells slots ws pc lv (.int (z_I i) :: .ref a :: rest) := fun H locs ls hP hD hS hl => by
  unfold z_rd at h
  split at h
  · rename_i hc
    subst hn
    have hr : z_Rg i := by omega
    have e : (((z_I i).toNatClampNeg : Nat) : Int) = i := by rw [z_nat hr]; omega
    refine va_zald (D := D) X.1.1 X.1.2.1 X.2.1 hP q1 1 ha rfl (z_vin hc hn2) hdg ?_
    simp only [e]
    exact kk h H locs ls hP hD hS hl
  · cases h
theorem z_iast (X : z_X p m c cc nL s args own R lev D cI cZ A adK adV) {res : Int × zMem} {M : zMem} {q0 q1 a n : Nat} {nn i v : Int} {K : zMem → zO} (ha : ws[q1]? = some (a, .inl (cI, n, .inl (fun j : Nat => z_I (M q0 (j : Int)))))) (hn : nn = (n : Int)) (hn2 : n < 2147483648) (hset : ws.set q1 (a, .inl (cI, n, .inl (fun j : Nat => z_I (z_st M q0 i v q0 (j : Int))))) = ws') (hdg : decode cc pc = .ok (.iastore, 1)) (h : z_wr M q0 nn i v K = some res)
    (kk : K (z_st M q0 i v) = some res → z_W p l e R s m args below meth c D A Q nL cells slots ws' (pc + 1) lv rest) : z_W p l e R s m args below meth c D A Q nL cells slots ws pc lv (.int (z_I v) :: .int (z_I i) :: .ref a :: rest) := fun H locs ls hP hD hS hl => by
  unfold z_wr at h
  split at h
  · rename_i hc
    subst hn
    refine va_iast (D := D) X.1.1 X.1.2.1 X.2.1 hP hD hS q1 0 ha rfl (z_vin hc hn2) hdg (fun H1 locs1 g1 g2 g3 => ?_)
    rw [z_upd (by omega), hset] at g1 g2
    exact kk h H1 locs1 ls g1 g2 g3 hl
  · cases h
theorem z_zast (X : z_X p m c cc nL s args own R lev D cI cZ A adK adV) {res : Int × zMem} {M : zMem} {q0 q1 a n : Nat} {nn i v : Int} {K : zMem → zO} (ha : ws[q1]? = some (a, .inl (cZ, n, .inl (fun j : Nat => z_I (M q0 (j : Int)))))) (hn : nn = (n : Int)) (hn2 : n < 2147483648) (hset : ws.set q1 (a, .inl (cZ, n, .inl (fun j : Nat => z_I (z_st M q0 i v q0 (j : Int))))) = ws') (hdg : decode cc pc = .ok (.bastore, 1)) (h : z_wz M q0 nn i v K = some res)
    (kk : K (z_st M q0 i v) = some res → z_W p l e R s m args below meth c D A Q nL cells slots ws' (pc + 1) lv rest) : z_W p l e R s m args below meth c D A Q nL cells slots ws pc lv (.int (z_I v) :: .int (z_I i) :: .ref a :: rest) := fun H locs ls hP hD hS hl => by
  unfold z_wz at h
  split at h
  · rename_i hc
    subst hn
    refine va_zast (D := D) X.1.1 X.1.2.1 X.2.1 hP hD hS q1 1 ha rfl (z_vin hc.1 hn2) hdg (fun H1 locs1 g1 g2 g3 => ?_)
    have e : vp_nar .boolean (z_I v) = z_I v := by rcases hc.2 with rfl | rfl <;> decide
    rw [e, z_upd (by omega), hset] at g1 g2
    exact kk h H1 locs1 ls g1 g2 g3 hl
  · cases h
/-- returns -/
theorem z_iret {Wd : zMem → va_W} {res : Int × zMem} {x : Int} {M : zMem} (X : z_X p m c cc nL s args own R lev D cI cZ A adK adV) (hr : meth.sig.returnType = some .int) (hlk : meth.locks = false) (hdg : decode cc pc = .ok (.ireturn, 1)) (h : some (x, M) = some res) : z_W p l e R s m args below meth c D A (MQ below (z_Q Wd D cI cZ res.2 A (some (.int (z_I res.1)))) args s 0 0 A) nL 0 0 (Wd M) pc lv [.int (z_I x)] := fun H locs ls hP hD hS hl => by
  cases h
  exact W.iret X.1.1 X.1.2.1 hr (fun t ht hW => ⟨rfl, by rw [ht]; exact hP, va_K.moved hW.alike X.2.1, hD, hS.F ht⟩) hS.2.2 hdg hlk
theorem z_zret {Wd : zMem → va_W} {res : Int × zMem} {x : Int} {M : zMem} (X : z_X p m c cc nL s args own R lev D cI cZ A adK adV) (hr : meth.sig.returnType = some .boolean) (hlk : meth.locks = false) (hx : x = 0 ∨ x = 1) (hdg : decode cc pc = .ok (.ireturn, 1)) (h : some (x, M) = some res) : z_W p l e R s m args below meth c D A (MQ below (z_Q Wd D cI cZ res.2 A (some (.int (z_I res.1)))) args s 0 0 A) nL 0 0 (Wd M) pc lv [.int (z_I x)] := fun H locs ls hP hD hS hl => by
  cases h
  exact W.zret (ty := .boolean) X.1.1 X.1.2.1 hr (by rcases hx with rfl | rfl <;> decide) (fun t ht hW => ⟨rfl, by rw [ht]; exact hP, va_K.moved hW.alike X.2.1, hD, hS.F ht⟩) hS.2.2 hdg hlk
theorem z_lret {Wd : zMem → va_W} {res : Int × zMem} {x : Int} {M : zMem} (X : z_X p m c cc nL s args own R lev D cI cZ A adK adV) (hr : meth.sig.returnType = some .long) (hlk : meth.locks = false) (hdg : decode cc pc = .ok (.lreturn, 1)) (h : some (x, M) = some res) : z_W p l e R s m args below meth c D A (MQ below (z_Q Wd D cI cZ res.2 A (some (.long (z_L res.1)))) args s 0 0 A) nL 0 0 (Wd M) pc lv [.long (z_L x)] := fun H locs ls hP hD hS hl => by
  cases h
  exact W.lret X.1.1 X.1.2.1 hr (fun t ht hW => ⟨rfl, by rw [ht]; exact hP, va_K.moved hW.alike X.2.1, hD, hS.F ht⟩) hS.2.2 hdg hlk
theorem z_vret {Wd : zMem → va_W} {res : Int × zMem} {x : Int} {M : zMem} (X : z_X p m c cc nL s args own R lev D cI cZ A adK adV) (hr : meth.sig.returnType = none) (hlk : meth.locks = false) (hdg : decode cc pc = .ok (.return_, 1)) (h : some (x, M) = some res) : z_W p l e R s m args below meth c D A (MQ below (z_Q Wd D cI cZ res.2 A none) args s 0 0 A) nL 0 0 (Wd M) pc lv [] := fun H locs ls hP hD hS hl => by
  cases h
  exact W.vret X.1.1 X.1.2.1 hr (fun t ht hW => ⟨rfl, by rw [ht]; exact hP, va_K.moved hW.alike X.2.1, hD, hS.F ht⟩) hS.2.2 hdg hlk
/-- behind a call: the callee had the whole world -/
theorem z_back {Wd : zMem → va_W} {M M' : zMem} {rv : Option Value} {a : Array Value} {H : Heap} {locs : List Loc} {ls : Array Slot} {st0 : List Value} (hr : va_Run p l e R s m args below meth c H locs cells slots 0 0 (F0 m pc ls st0) rest (z_Q Wd D cI cZ M' (va_A (Wd M) H.size) rv a) (va_A (Wd M) H.size)) (hS : va_S A s.heap H locs) (hF : ∀ q, va_A (Wd M) H.size q → A q) (hl : lv_has ls nL lv)
    (kk : z_W p l e R s m args below meth c D A Q nL cells slots (Wd M') (pc + 3) lv (rv.toList ++ rest)) : W p l e R s m args below meth c H locs cells slots Q (F0 m pc ls st0) := by
  intro T hT X
  obtain ⟨v, st₀, t, T', L, h0, X', hL, e1, e2, ⟨hv, hP1, hK1, hD1, hz, hk⟩, st⟩ := hr T hT X
  cases hv
  rw [h0] at hz hk
  obtain ⟨t2, a1, b1⟩ := kk T'.heap (locs ++ L) ls (by rw [e1]; exact hP1) (hD1.weaken (fun _ q _ h => hF q.1 h)) ⟨Nat.le_trans hS.1 (by rw [e1]; exact hz), fun q h1 h2 => by rw [e1, hk q (Nat.lt_of_lt_of_le h1 hS.1) (fun z => h2 (hF q z))]; exact hS.2.1 q h1 h2, fun q hq => by
      rcases List.mem_append.mp hq with h | h
      · exact hS.2.2 q h
      · exact hF _ (hL q h)⟩ hl T' rfl X'
  exact ⟨t2, st t2 a1, b1⟩
theorem z_freeA {Wd : zMem → va_W} {M : zMem} {H : Heap} {locs : List Loc} (X : z_X p m c cc nL s args own R lev D cI cZ A adK adV) (hD : va_D A (Wd M)) (hS : va_S A s.heap H locs) : ∀ q, va_A (Wd M) H.size q → A q := by
  intro q h
  rcases h with ⟨k, e, h⟩ | h
  · exact hD.2 k (q, e) h
  · exact X.2.2.1 q (Nat.le_trans hS.1 h)
theorem z_preOf {Wd : zMem → va_W} {M : zMem} {H : Heap} {locs : List Loc} (X : z_X p m c cc nL s args own R lev D cI cZ A adK adV) (hP : va_P D vwCl (Wd M) H) (hD : va_D A (Wd M)) (hS : va_S A s.heap H locs) : ∀ U : State, U.heap = H → s.WarmedH U.vm → z_pre Wd D cI cZ adK adV M H.size U := fun U hU hW =>
  ⟨by rw [hU], by rw [hU]; exact hP, va_K.moved hW.alike X.2.1, hD.weaken (fun _ _ _ _ => trivial), z_kw_go X.2.2.2.1 hS hU hW (z_freeA X hD hS)⟩
/-- a call of an instance method -/
theorem z_callV {Wd : zMem → va_W} {M M' : zMem} {rv : Option Value} {y : MethodName} {bytes : ByteArray} {maxL n index lev' b : Nat} {ret : Option FieldType} {C : String} {As st0 : List Value} (X : z_X p m c cc nL s args own R lev D cI cZ A adK adV) (hM : z_Ct Wd D cI cZ adK adV l y bytes maxL ret lev' (.ref b :: As) M M' rv)
    (hl1 : Cond.methodLink own index y ∈ z_G) (hy : y.cls = C ∧ y.cls ≠ "java/lang/invoke/MethodHandle" ∧ y.cls ≠ "java/lang/invoke/VarHandle" ∧ (parseMethodDescriptor y.desc).map (fun d => d.parameters.length) = some n) (hyw : Cond.instanceMethod y ∈ z_G ∧ Cond.selects C y y ∈ z_G ∧ Cond.initialized C ∈ z_G ∧ Cond.code y bytes maxL ret ∈ z_G) (hlev : lev' + 1 ≤ lev) (hmax : maxL ≤ 45)
    (hrecv : ∀ H : Heap, va_P D vwCl (Wd M) H → ∃ cell : Cell, H[b]? = some cell ∧ cell.vm.isStatics = false ∧ s.vm.findClass C = some cell.cls) (hn : As.length = n) (hst : st0 = As.reverse ++ .ref b :: rest) (hrest : (rest.map fun v => v.category).sum ≤ 8) (hf : cells + 0 ≤ R.cells ∧ slots + 0 ≤ R.slots) (hdg : decode cc pc = .ok (.invokevirtual index, 3))
    (kk : z_W p l e R s m args below meth c D A Q nL cells slots (Wd M') (pc + 3) lv (rv.toList ++ rest)) : z_W p l e R s m args below meth c D A Q nL cells slots (Wd M) pc lv st0 := fun H locs ls hP hD hS hl => by
  obtain ⟨i1, i2, i3, i4⟩ := hyw
  have ts := X.1.2.2.2.2
  have hR1 := X.2.2.2.2.1
  have hR2 := X.2.2.2.2.2
  refine z_back (va_runV (As := As) (b := b) (C := C) (n := n) (bytes := bytes) (maxL := maxL) (ret := ret) (Ts := z_G) (rest := rest) X.1 (hM H.size) ⟨callB_of n ts (z_G_good i4) rfl rfl rfl (by rw [hy.1]; exact ts _ i3) (ts _ hl1) hy.2 ⟨by show lev' + 1 ≤ R.frames; omega, by show 8 + (maxL + 11) + 64 * lev' ≤ R.locals; omega⟩, ts _ i1, ts _ i2⟩ ⟨z_blind, hrecv H hP, fun U hU hW => ⟨rfl, z_preOf X hP hD hS U hU hW⟩⟩ rfl hn hl.1 hst (lv_room hrest) hdg hf) hS (z_freeA X hD hS) hl kk
/-- a call of a static method of the own class or of another one -/
theorem z_callS {Wd : zMem → va_W} {M M' : zMem} {rv : Option Value} {y : MethodName} {bytes : ByteArray} {maxL n index lev' : Nat} {ret : Option FieldType} {As st0 : List Value} (X : z_X p m c cc nL s args own R lev D cI cZ A adK adV) (hM : z_Ct Wd D cI cZ adK adV l y bytes maxL ret lev' As M M' rv)
    (hl1 : Cond.methodLink own index y ∈ z_G) (hy : y.cls ≠ "java/lang/invoke/MethodHandle" ∧ y.cls ≠ "java/lang/invoke/VarHandle" ∧ (parseMethodDescriptor y.desc).map (fun d => d.parameters.length) = some n) (hyw : Cond.static y ∈ z_G ∧ Cond.initialized y.cls ∈ z_G ∧ Cond.code y bytes maxL ret ∈ z_G) (hlev : lev' + 1 ≤ lev) (hmax : maxL ≤ 45)
    (hn : As.length = n) (hst : st0 = As.reverse ++ rest) (hrest : (rest.map fun v => v.category).sum ≤ 8) (hf : cells + 0 ≤ R.cells ∧ slots + 0 ≤ R.slots) (hdg : decode cc pc = .ok (.invokestatic index, 3))
    (kk : z_W p l e R s m args below meth c D A Q nL cells slots (Wd M') (pc + 3) lv (rv.toList ++ rest)) : z_W p l e R s m args below meth c D A Q nL cells slots (Wd M) pc lv st0 := fun H locs ls hP hD hS hl => by
  obtain ⟨i1, i3, i4⟩ := hyw
  have ts := X.1.2.2.2.2
  have hR1 := X.2.2.2.2.1
  have hR2 := X.2.2.2.2.2
  refine z_back (va_runS (As := As) (n := n) (bytes := bytes) (maxL := maxL) (ret := ret) (Ts := z_G) (rest := rest) X.1 (hM H.size) ⟨callB_of n ts (z_G_good i4) rfl rfl rfl (ts _ i3) (ts _ hl1) hy ⟨by show lev' + 1 ≤ R.frames; omega, by show 8 + (maxL + 11) + 64 * lev' ≤ R.locals; omega⟩, ts _ i1⟩ ⟨z_blind, fun U hU hW => ⟨rfl, z_preOf X hP hD hS U hU hW⟩⟩ rfl hn hl.1 hst (lv_room hrest) hdg hf) hS (z_freeA X hD hS) hl kk
/-- a call of a private static method of a nest mate -/
theorem z_callN {Wd : zMem → va_W} {M M' : zMem} {rv : Option Value} {y : MethodName} {bytes : ByteArray} {maxL n index lev' : Nat} {host : String} {ret : Option FieldType} {As st0 : List Value} (X : z_X p m c cc nL s args own R lev D cI cZ A adK adV) (hM : z_Ct Wd D cI cZ adK adV l y bytes maxL ret lev' As M M' rv)
    (hl1 : Cond.methodLinkNest own index y host ∈ z_nest) (hy : y.cls ≠ "java/lang/invoke/MethodHandle" ∧ y.cls ≠ "java/lang/invoke/VarHandle" ∧ (parseMethodDescriptor y.desc).map (fun d => d.parameters.length) = some n) (hyw : Cond.static y ∈ z_G ∧ Cond.initialized y.cls ∈ z_G ∧ Cond.code y bytes maxL ret ∈ z_G) (hlev : lev' + 1 ≤ lev) (hmax : maxL ≤ 45)
    (hn : As.length = n) (hst : st0 = As.reverse ++ rest) (hrest : (rest.map fun v => v.category).sum ≤ 8) (hf : cells + 0 ≤ R.cells ∧ slots + 0 ≤ R.slots) (hdg : decode cc pc = .ok (.invokestatic index, 3))
    (kk : z_W p l e R s m args below meth c D A Q nL cells slots (Wd M') (pc + 3) lv (rv.toList ++ rest)) : z_W p l e R s m args below meth c D A Q nL cells slots (Wd M) pc lv st0 := fun H locs ls hP hD hS hl => by
  obtain ⟨i1, i3, i4⟩ := hyw
  have ts := X.1.2.2.2.2
  have hR1 := X.2.2.2.2.1
  have hR2 := X.2.2.2.2.2
  refine z_back (va_runSN (As := As) (n := n) (bytes := bytes) (maxL := maxL) (ret := ret) (Ts := z_G) (rest := rest) X.1 (hM H.size) ⟨va_cnB n ts (z_G_good i4) rfl rfl rfl (X.2.2.2.1.2.2.2.2 _ hl1) (ts _ i3) hy ⟨by show lev' + 1 ≤ R.frames; omega, by show 8 + (maxL + 11) + 64 * lev' ≤ R.locals; omega⟩, ts _ i1, trivial⟩ ⟨z_blind, fun U hU hW => ⟨rfl, z_preOf X hP hD hS U hU hW⟩⟩ rfl hn hl.1 hst (lv_room hrest) hdg hf) hS (z_freeA X hD hS) hl kk
/-- a String constant is pushed -/
theorem z_ldcS (X : z_X p m c cc nL s args own R lev D cI cZ A adK adV) {index : Nat} (i : Nat) (hi : i < 27) (ho : z_sOwn.getD i "" = own) (hx : z_sIdx.getD i 0 = index) (hdg : decode cc pc = .ok (.ldc index, 2)) (kk : z_W p l e R s m args below meth c D A Q nL cells slots ws (pc + 2) lv (.ref (adK i) :: rest)) : z_W p l e R s m args below meth c D A Q nL cells slots ws pc lv rest := fun H locs ls hP hD hS hl => by
  have h := X.2.2.2.1.2.1 i hi
  rw [ho, hx] at h
  exact va_ldcS X.1.1 X.1.2.1 X.1.2.2.2.1 h hdg (kk H locs ls hP hD hS hl)
/-- System.arraycopy of whole numbers, from one cell to another -/
theorem z_copy {Wd : zMem → va_W} {res : Int × zMem} {M M' : zMem} {K : zMem → zO} {qs qd a0 a n0 n1 index : Nat} {ns nd sp dp n : Int} (X : z_X p m c cc nL s args own R lev D cI cZ A adK adV) (hlink : Cond.methodLink own index arraycopyName ∈ z_G) (hw : Cond.native arraycopyName ∈ z_G ∧ Cond.static arraycopyName ∈ z_G ∧ Cond.initialized "java/lang/System" ∈ z_G) (hlev : 1 ≤ lev)
    (ha0 : (Wd M)[qs]? = some (a0, .inl (cI, n0, .inl (fun j : Nat => z_I (M qs (j : Int)))))) (ha1 : (Wd M)[qd]? = some (a, .inl (cI, n1, .inl (fun j : Nat => z_I (M qd (j : Int)))))) (hn0 : ns = (n0 : Int)) (hn1 : nd = (n1 : Int)) (hs0 : n0 < 2147483648) (hs1 : n1 < 2147483648)
    (hset : ∀ f : Int → Int, (Wd M).set qd (a, .inl (cI, n1, .inl (fun j : Nat => z_I (f (j : Int))))) = Wd (fun c' j => if c' = qd then f j else M c' j)) (hrest : (rest.map fun v => v.category).sum ≤ 8) (hdg : decode cc pc = .ok (.invokestatic index, 3)) (h : z_cp M qs ns sp qd nd dp n K = some res)
    (kk : ∀ M', K M' = some res → z_W p l e R s m args below meth c D A Q nL cells slots (Wd M') (pc + 3) lv rest) : z_W p l e R s m args below meth c D A Q nL cells slots (Wd M) pc lv (.int (z_I n) :: .int (z_I dp) :: .ref a :: .int (z_I sp) :: .ref a0 :: rest) := fun H locs ls hP hD hS hl => by
  unfold z_cp at h
  split at h
  · rename_i hc
    subst hn0; subst hn1
    have r1 : z_Rg sp := by omega
    have r2 : z_Rg dp := by omega
    have r3 : z_Rg n := by omega
    have ng : ∀ x : Int, z_Rg x → 0 ≤ x → ¬ z_I x < 0 := fun x hx h0 hlt => by
      rw [Int32.lt_iff_toInt_lt, z_I_in hx] at hlt
      have : (0 : Int32).toInt = 0 := rfl
      omega
    have ts := X.1.2.2.2.2
    have hR1 := X.2.2.2.2.1
    have hR2 := X.2.2.2.2.2
    have hw11 : nativeFrameWords "java/lang/System" "arraycopy" 5 + 11 ≤ 40 := by decide +kernel
    refine va_copyi (D := D) (ty := .int) X.1.1 X.1.2.1 (by rw [X.1.2.2.1]; exact hl.1.symm) X.1.2.2.2.1 (ts _ hlink) (ts _ hw.1) (ts _ hw.2.1) (ts _ hw.2.2) X.2.1 hP hD hS qs qd 0 0 ha0 ha1 rfl rfl rfl (ng _ r1 hc.1) (ng _ r2 hc.2.1) (ng _ r3 hc.2.2.1) (by rw [z_nat r1, z_nat r3]; omega) (by rw [z_nat r2, z_nat r3]; omega) (fun i hi => rfl) (by omega) (by omega) hdg (fun H1 locs1 g1 g2 g3 => ?_)
    have e : va_cpy (fun j : Nat => z_I (M qs (j : Int))) (fun j : Nat => z_I (M qd (j : Int))) (z_I sp).toNatClampNeg (z_I dp).toNatClampNeg (z_I n).toNatClampNeg = fun j : Nat => z_I ((fun j : Int => if dp ≤ j ∧ j < dp + n then M qs (sp + (j - dp)) else M qd j) (j : Int)) := by
      rw [z_nat r1, z_nat r2, z_nat r3]
      funext j
      unfold va_cpy
      by_cases hj : dp.toNat ≤ j ∧ j < dp.toNat + n.toNat
      · have h2 : dp ≤ (j : Int) ∧ (j : Int) < dp + n := by omega
        have h3 : ((sp.toNat + (j - dp.toNat) : Nat) : Int) = sp + ((j : Int) - dp) := by omega
        simp only [if_pos hj, if_pos h2, h3]
      · have h2 : ¬ (dp ≤ (j : Int) ∧ (j : Int) < dp + n) := by omega
        simp only [if_neg hj, if_neg h2]
    rw [e, hset (fun j : Int => if dp ≤ j ∧ j < dp + n then M qs (sp + (j - dp)) else M qd j)] at g1 g2
    have e2 : (fun c' j => if c' = qd then (fun j : Int => if dp ≤ j ∧ j < dp + n then M qs (sp + (j - dp)) else M qd j) j else M c' j) = (fun c' j => if c' = qd then (if dp ≤ j ∧ j < dp + n then M qs (sp + (j - dp)) else M c' j) else M c' j : zMem) := by
      funext c' j
      by_cases hcc : c' = qd
      · subst hcc; simp
      · simp [hcc]
    rw [e2] at g1 g2
    exact kk _ h H1 locs1 ls g1 g2 g3 hl
  · cases h
end ZH
end
