def z_I (x : Int) : Int32 := Int32.ofInt x
def z_L (x : Int) : Int64 := Int64.ofInt x
/-! the words that every method has -/
def z_G : List Cond := lw_tbl.filter goodWord
theorem z_G_in {i : Nat} {w : Cond} (h : lw_tbl[i]? = some w) (hg : goodWord w = true) : w ∈ z_G := List.mem_filter.mpr ⟨List.mem_of_getElem? h, hg⟩
theorem z_G_good {y : MethodName} {cc : ByteArray} {n : Nat} {ret : Option FieldType} (h : Cond.code y cc n ret ∈ z_G) : GoodIn z_G (.code y cc n ret :: z_G) := by
  intro w hw
  rcases List.mem_cons.mp hw with rfl | hw
  · exact ⟨h, good_of_word (List.mem_filter.mp h).2⟩
  · exact ⟨hw, good_of_word (List.mem_filter.mp hw).2⟩
set_option maxRecDepth 100000 in
theorem inX0 : ∀ w ∈ u_ws RX0 TX0 2, w ∈ z_G := by
  intro w hw
  have hp : u_ws RX0 TX0 2 = ([489, 491] : List Nat).filterMap (fun i => lw_tbl[i]?) := by decide +kernel
  have hg : (u_ws RX0 TX0 2).all goodWord = true := by decide +kernel
  have h1 := List.all_eq_true.mp hg w hw
  rw [hp] at hw
  obtain ⟨i, -, hi⟩ := List.mem_filterMap.mp hw
  exact z_G_in hi h1
set_option maxRecDepth 100000 in
theorem inX1 : ∀ w ∈ u_ws RX1 TX1 6, w ∈ z_G := by
  intro w hw
  have hp : u_ws RX1 TX1 6 = ([336, 338, 340, 342, 344, 346] : List Nat).filterMap (fun i => lw_tbl[i]?) := by decide +kernel
  have hg : (u_ws RX1 TX1 6).all goodWord = true := by decide +kernel
  have h1 := List.all_eq_true.mp hg w hw
  rw [hp] at hw
  obtain ⟨i, -, hi⟩ := List.mem_filterMap.mp hw
  exact z_G_in hi h1
set_option maxRecDepth 100000 in
theorem inX2 : ∀ w ∈ u_ws RX2 TX2 4, w ∈ z_G := by
  intro w hw
  have hp : u_ws RX2 TX2 4 = ([421, 423, 425, 427] : List Nat).filterMap (fun i => lw_tbl[i]?) := by decide +kernel
  have hg : (u_ws RX2 TX2 4).all goodWord = true := by decide +kernel
  have h1 := List.all_eq_true.mp hg w hw
  rw [hp] at hw
  obtain ⟨i, -, hi⟩ := List.mem_filterMap.mp hw
  exact z_G_in hi h1
set_option maxRecDepth 100000 in
theorem inX3 : ∀ w ∈ u_ws RX3 TX3 18, w ∈ z_G := by
  intro w hw
  have hp : u_ws RX3 TX3 18 = ([213, 215, 217, 219, 221, 223, 225, 227, 229, 231, 233, 235, 237, 239, 241, 243, 245, 247] : List Nat).filterMap (fun i => lw_tbl[i]?) := by decide +kernel
  have hg : (u_ws RX3 TX3 18).all goodWord = true := by decide +kernel
  have h1 := List.all_eq_true.mp hg w hw
  rw [hp] at hw
  obtain ⟨i, -, hi⟩ := List.mem_filterMap.mp hw
  exact z_G_in hi h1
set_option maxRecDepth 100000 in
theorem inX4 : ∀ w ∈ u_ws RX4 TX4 8, w ∈ z_G := by
  intro w hw
  have hp : u_ws RX4 TX4 8 = ([394, 396, 398, 400, 402, 404, 406, 408] : List Nat).filterMap (fun i => lw_tbl[i]?) := by decide +kernel
  have hg : (u_ws RX4 TX4 8).all goodWord = true := by decide +kernel
  have h1 := List.all_eq_true.mp hg w hw
  rw [hp] at hw
  obtain ⟨i, -, hi⟩ := List.mem_filterMap.mp hw
  exact z_G_in hi h1
set_option maxRecDepth 100000 in
theorem inX5 : ∀ w ∈ u_ws RX5 TX5 13, w ∈ z_G := by
  intro w hw
  have hp : u_ws RX5 TX5 13 = ([453, 455, 457, 459, 461, 463, 465, 467, 469, 471, 473, 475, 477] : List Nat).filterMap (fun i => lw_tbl[i]?) := by decide +kernel
  have hg : (u_ws RX5 TX5 13).all goodWord = true := by decide +kernel
  have h1 := List.all_eq_true.mp hg w hw
  rw [hp] at hw
  obtain ⟨i, -, hi⟩ := List.mem_filterMap.mp hw
  exact z_G_in hi h1
set_option maxRecDepth 100000 in
theorem inX6 : ∀ w ∈ u_ws RX6 TX6 2, w ∈ z_G := by
  intro w hw
  have hp : u_ws RX6 TX6 2 = ([141, 143] : List Nat).filterMap (fun i => lw_tbl[i]?) := by decide +kernel
  have hg : (u_ws RX6 TX6 2).all goodWord = true := by decide +kernel
  have h1 := List.all_eq_true.mp hg w hw
  rw [hp] at hw
  obtain ⟨i, -, hi⟩ := List.mem_filterMap.mp hw
  exact z_G_in hi h1
set_option maxRecDepth 100000 in
theorem inX7 : ∀ w ∈ u_ws RX7 TX7 6, w ∈ z_G := by
  intro w hw
  have hp : u_ws RX7 TX7 6 = ([371, 373, 375, 377, 379, 381] : List Nat).filterMap (fun i => lw_tbl[i]?) := by decide +kernel
  have hg : (u_ws RX7 TX7 6).all goodWord = true := by decide +kernel
  have h1 := List.all_eq_true.mp hg w hw
  rw [hp] at hw
  obtain ⟨i, -, hi⟩ := List.mem_filterMap.mp hw
  exact z_G_in hi h1
set_option maxRecDepth 100000 in
theorem inX8 : ∀ w ∈ u_ws RX8 TX8 17, w ∈ z_G := by
  intro w hw
  have hp : u_ws RX8 TX8 17 = ([289, 291, 293, 295, 297, 299, 301, 303, 305, 307, 309, 311, 313, 315, 317, 319, 321] : List Nat).filterMap (fun i => lw_tbl[i]?) := by decide +kernel
  have hg : (u_ws RX8 TX8 17).all goodWord = true := by decide +kernel
  have h1 := List.all_eq_true.mp hg w hw
  rw [hp] at hw
  obtain ⟨i, -, hi⟩ := List.mem_filterMap.mp hw
  exact z_G_in hi h1
set_option maxRecDepth 100000 in
theorem inX9 : ∀ w ∈ u_ws RX9 TX9 13, w ∈ z_G := by
  intro w hw
  have hp : u_ws RX9 TX9 13 = ([507, 509, 511, 513, 515, 517, 519, 521, 523, 525, 527, 529, 531] : List Nat).filterMap (fun i => lw_tbl[i]?) := by decide +kernel
  have hg : (u_ws RX9 TX9 13).all goodWord = true := by decide +kernel
  have h1 := List.all_eq_true.mp hg w hw
  rw [hp] at hw
  obtain ⟨i, -, hi⟩ := List.mem_filterMap.mp hw
  exact z_G_in hi h1
set_option maxRecDepth 100000 in
theorem inX10 : ∀ w ∈ u_ws RX10 TX10 53, w ∈ z_G := by
  intro w hw
  have hp : u_ws RX10 TX10 53 = ([1223, 1225, 1227, 1229, 1231, 1233, 1235, 1237, 1239, 1241, 1243, 1245, 1247, 1249, 1251, 1253, 1255, 1257, 1259, 1261, 1263, 1265, 1267, 1269, 1271, 1273, 1275, 1277, 1279, 1281, 1283, 1285, 1287, 1289, 1291, 1293, 1295, 1297, 1299, 1301, 1303, 1305, 1307, 1309, 1311, 1313, 1315, 1317, 1319, 1321, 1323, 1325, 1327] : List Nat).filterMap (fun i => lw_tbl[i]?) := by decide +kernel
  have hg : (u_ws RX10 TX10 53).all goodWord = true := by decide +kernel
  have h1 := List.all_eq_true.mp hg w hw
  rw [hp] at hw
  obtain ⟨i, -, hi⟩ := List.mem_filterMap.mp hw
  exact z_G_in hi h1
theorem fl_X9_23 : Cond.fieldLink RX9 23 "DrumPlacer" "tape" "LDrumPlacer$Tape;" ∈ z_G := z_G_in (i := 494) (by decide +kernel) (by decide +kernel)
theorem fl_X9_34 : Cond.fieldLink RX9 34 "DrumPlacer" "reader" "LDrumPlacer$Reader;" ∈ z_G := z_G_in (i := 495) (by decide +kernel) (by decide +kernel)
theorem fl_X9_38 : Cond.fieldLink RX9 38 "DrumPlacer" "draft" "LDrumPlacer$Plan;" ∈ z_G := z_G_in (i := 496) (by decide +kernel) (by decide +kernel)
theorem fl_X9_42 : Cond.fieldLink RX9 42 "DrumPlacer" "plan" "LDrumPlacer$Plan;" ∈ z_G := z_G_in (i := 497) (by decide +kernel) (by decide +kernel)
theorem fl_X9_45 : Cond.fieldLink RX9 45 "DrumPlacer" "trace" "LDrumPlacer$Trace;" ∈ z_G := z_G_in (i := 498) (by decide +kernel) (by decide +kernel)
theorem fl_X9_49 : Cond.fieldLink RX9 49 "DrumPlacer" "clock" "LDrumPlacer$Clock;" ∈ z_G := z_G_in (i := 499) (by decide +kernel) (by decide +kernel)
theorem fl_X9_58 : Cond.fieldLink RX9 58 "DrumPlacer" "laws" "LDrumPlacer$Laws;" ∈ z_G := z_G_in (i := 500) (by decide +kernel) (by decide +kernel)
theorem fl_X9_67 : Cond.fieldLink RX9 67 "DrumPlacer" "search" "LDrumPlacer$Search;" ∈ z_G := z_G_in (i := 501) (by decide +kernel) (by decide +kernel)
theorem fl_X9_74 : Cond.fieldLink RX9 74 "DrumPlacer" "acts" "LDrumPlacer$Acts;" ∈ z_G := z_G_in (i := 502) (by decide +kernel) (by decide +kernel)
theorem fl_X9_78 : Cond.fieldLink RX9 78 "DrumPlacer" "laying" "[I" ∈ z_G := z_G_in (i := 503) (by decide +kernel) (by decide +kernel)
theorem fl_X9_82 : Cond.fieldLink RX9 82 "DrumPlacer" "lawLaying" "[I" ∈ z_G := z_G_in (i := 504) (by decide +kernel) (by decide +kernel)
theorem fl_X9_85 : Cond.fieldLink RX9 85 "DrumPlacer" "fault" "I" ∈ z_G := z_G_in (i := 505) (by decide +kernel) (by decide +kernel)
theorem fl_X9_89 : Cond.fieldLink RX9 89 "DrumPlacer" "faultPlace" "I" ∈ z_G := z_G_in (i := 506) (by decide +kernel) (by decide +kernel)
theorem fl_X9_92 : Cond.fieldLink RX9 92 "DrumPlacer$Tape" "size" "I" ∈ z_G := z_G_in (i := 140) (by decide +kernel) (by decide +kernel)
theorem fl_X9_102 : Cond.fieldLink RX9 102 "DrumPlacer$Reader" "fault" "I" ∈ z_G := z_G_in (i := 391) (by decide +kernel) (by decide +kernel)
theorem fl_X9_103 : Cond.fieldLink RX9 103 "DrumPlacer$Reader" "faultPlace" "I" ∈ z_G := z_G_in (i := 393) (by decide +kernel) (by decide +kernel)
theorem fl_X9_117 : Cond.fieldLink RX9 117 "DrumPlacer$Acts" "count" "I" ∈ z_G := z_G_in (i := 488) (by decide +kernel) (by decide +kernel)
theorem fl_X9_120 : Cond.fieldLink RX9 120 "DrumPlacer$Plan" "lines" "I" ∈ z_G := z_G_in (i := 179) (by decide +kernel) (by decide +kernel)
theorem fl_X9_123 : Cond.fieldLink RX9 123 "DrumPlacer$Plan" "tracks" "I" ∈ z_G := z_G_in (i := 156) (by decide +kernel) (by decide +kernel)
theorem fl_X9_126 : Cond.fieldLink RX9 126 "DrumPlacer$Plan" "sectors" "I" ∈ z_G := z_G_in (i := 161) (by decide +kernel) (by decide +kernel)
theorem fl_X9_129 : Cond.fieldLink RX9 129 "DrumPlacer$Plan" "wait" "I" ∈ z_G := z_G_in (i := 165) (by decide +kernel) (by decide +kernel)
theorem fl_X9_132 : Cond.fieldLink RX9 132 "DrumPlacer$Plan" "quick" "I" ∈ z_G := z_G_in (i := 170) (by decide +kernel) (by decide +kernel)
theorem fl_X9_135 : Cond.fieldLink RX9 135 "DrumPlacer$Plan" "mul" "I" ∈ z_G := z_G_in (i := 176) (by decide +kernel) (by decide +kernel)
theorem fl_X9_138 : Cond.fieldLink RX9 138 "DrumPlacer$Plan" "words" "I" ∈ z_G := z_G_in (i := 188) (by decide +kernel) (by decide +kernel)
theorem fl_X9_141 : Cond.fieldLink RX9 141 "DrumPlacer$Plan" "steps" "I" ∈ z_G := z_G_in (i := 191) (by decide +kernel) (by decide +kernel)
theorem fl_X9_158 : Cond.fieldLink RX9 158 "DrumPlacer$Plan" "op" "[I" ∈ z_G := z_G_in (i := 197) (by decide +kernel) (by decide +kernel)
theorem fl_X9_168 : Cond.fieldLink RX9 168 "DrumPlacer$Trace" "done" "I" ∈ z_G := z_G_in (i := 258) (by decide +kernel) (by decide +kernel)
theorem fl_X9_171 : Cond.fieldLink RX9 171 "DrumPlacer$Trace" "ending" "I" ∈ z_G := z_G_in (i := 260) (by decide +kernel) (by decide +kernel)
theorem fl_X9_174 : Cond.fieldLink RX9 174 "DrumPlacer$Trace" "acc" "I" ∈ z_G := z_G_in (i := 262) (by decide +kernel) (by decide +kernel)
theorem fl_X9_180 : Cond.fieldLink RX9 180 "DrumPlacer$Trace" "value" "[I" ∈ z_G := z_G_in (i := 264) (by decide +kernel) (by decide +kernel)
theorem fl_X9_183 : Cond.fieldLink RX9 183 "DrumPlacer$Trace" "stepDone" "[I" ∈ z_G := z_G_in (i := 267) (by decide +kernel) (by decide +kernel)
theorem fl_X9_186 : Cond.fieldLink RX9 186 "DrumPlacer$Trace" "operandRead" "[I" ∈ z_G := z_G_in (i := 269) (by decide +kernel) (by decide +kernel)
theorem fl_X9_189 : Cond.fieldLink RX9 189 "DrumPlacer$Trace" "readingOf" "[I" ∈ z_G := z_G_in (i := 273) (by decide +kernel) (by decide +kernel)
theorem fl_X9_195 : Cond.fieldLink RX9 195 "DrumPlacer$Trace" "accBehind" "[I" ∈ z_G := z_G_in (i := 271) (by decide +kernel) (by decide +kernel)
theorem fl_X9_207 : Cond.fieldLink RX9 207 "DrumPlacer$Plan" "items" "I" ∈ z_G := z_G_in (i := 185) (by decide +kernel) (by decide +kernel)
theorem fl_X9_253 : Cond.fieldLink RX9 253 "DrumPlacer$Search" "ways" "J" ∈ z_G := z_G_in (i := 450) (by decide +kernel) (by decide +kernel)
theorem fl_X9_257 : Cond.fieldLink RX9 257 "DrumPlacer$Search" "most" "I" ∈ z_G := z_G_in (i := 448) (by decide +kernel) (by decide +kernel)
theorem fl_X9_292 : Cond.fieldLink RX9 292 "DrumPlacer$Search" "first" "[I" ∈ z_G := z_G_in (i := 452) (by decide +kernel) (by decide +kernel)
theorem fl_X0_9 : Cond.fieldLink RX0 9 "DrumPlacer$Acts" "before" "[I" ∈ z_G := z_G_in (i := 486) (by decide +kernel) (by decide +kernel)
theorem fl_X0_15 : Cond.fieldLink RX0 15 "DrumPlacer$Acts" "count" "I" ∈ z_G := z_G_in (i := 487) (by decide +kernel) (by decide +kernel)
theorem fl_X1_9 : Cond.fieldLink RX1 9 "DrumPlacer$Clock" "turn" "[I" ∈ z_G := z_G_in (i := 332) (by decide +kernel) (by decide +kernel)
theorem fl_X1_15 : Cond.fieldLink RX1 15 "DrumPlacer$Clock" "phase" "[I" ∈ z_G := z_G_in (i := 333) (by decide +kernel) (by decide +kernel)
theorem fl_X1_18 : Cond.fieldLink RX1 18 "DrumPlacer$Clock" "when" "[I" ∈ z_G := z_G_in (i := 334) (by decide +kernel) (by decide +kernel)
theorem fl_X1_21 : Cond.fieldLink RX1 21 "DrumPlacer$Clock" "waited" "[I" ∈ z_G := z_G_in (i := 335) (by decide +kernel) (by decide +kernel)
theorem fl_X1_24 : Cond.fieldLink RX1 24 "DrumPlacer$Clock" "plan" "LDrumPlacer$Plan;" ∈ z_G := z_G_in (i := 330) (by decide +kernel) (by decide +kernel)
theorem fl_X1_28 : Cond.fieldLink RX1 28 "DrumPlacer$Clock" "trace" "LDrumPlacer$Trace;" ∈ z_G := z_G_in (i := 331) (by decide +kernel) (by decide +kernel)
theorem fl_X1_40 : Cond.fieldLink RX1 40 "DrumPlacer$Plan" "items" "I" ∈ z_G := z_G_in (i := 182) (by decide +kernel) (by decide +kernel)
theorem fl_X1_54 : Cond.fieldLink RX1 54 "DrumPlacer$Trace" "readings" "I" ∈ z_G := z_G_in (i := 276) (by decide +kernel) (by decide +kernel)
theorem fl_X1_59 : Cond.fieldLink RX1 59 "DrumPlacer$Trace" "itemRead" "[I" ∈ z_G := z_G_in (i := 279) (by decide +kernel) (by decide +kernel)
theorem fl_X1_62 : Cond.fieldLink RX1 62 "DrumPlacer$Trace" "behind" "[I" ∈ z_G := z_G_in (i := 282) (by decide +kernel) (by decide +kernel)
theorem fl_X1_69 : Cond.fieldLink RX1 69 "DrumPlacer$Plan" "mul" "I" ∈ z_G := z_G_in (i := 175) (by decide +kernel) (by decide +kernel)
theorem fl_X1_72 : Cond.fieldLink RX1 72 "DrumPlacer$Trace" "passesToCome" "[I" ∈ z_G := z_G_in (i := 284) (by decide +kernel) (by decide +kernel)
theorem fl_X1_75 : Cond.fieldLink RX1 75 "DrumPlacer$Trace" "passReadings" "[I" ∈ z_G := z_G_in (i := 286) (by decide +kernel) (by decide +kernel)
theorem fl_X1_78 : Cond.fieldLink RX1 78 "DrumPlacer$Plan" "tracks" "I" ∈ z_G := z_G_in (i := 155) (by decide +kernel) (by decide +kernel)
theorem fl_X1_81 : Cond.fieldLink RX1 81 "DrumPlacer$Plan" "sectors" "I" ∈ z_G := z_G_in (i := 160) (by decide +kernel) (by decide +kernel)
theorem fl_X1_84 : Cond.fieldLink RX1 84 "DrumPlacer$Plan" "quick" "I" ∈ z_G := z_G_in (i := 171) (by decide +kernel) (by decide +kernel)
theorem fl_X2_9 : Cond.fieldLink RX2 9 "DrumPlacer$Laws" "taken" "[Z" ∈ z_G := z_G_in (i := 420) (by decide +kernel) (by decide +kernel)
theorem fl_X2_15 : Cond.fieldLink RX2 15 "DrumPlacer$Laws" "plan" "LDrumPlacer$Plan;" ∈ z_G := z_G_in (i := 417) (by decide +kernel) (by decide +kernel)
theorem fl_X2_19 : Cond.fieldLink RX2 19 "DrumPlacer$Laws" "trace" "LDrumPlacer$Trace;" ∈ z_G := z_G_in (i := 418) (by decide +kernel) (by decide +kernel)
theorem fl_X2_23 : Cond.fieldLink RX2 23 "DrumPlacer$Laws" "clock" "LDrumPlacer$Clock;" ∈ z_G := z_G_in (i := 419) (by decide +kernel) (by decide +kernel)
theorem fl_X2_34 : Cond.fieldLink RX2 34 "DrumPlacer$Trace" "readings" "I" ∈ z_G := z_G_in (i := 275) (by decide +kernel) (by decide +kernel)
theorem fl_X2_40 : Cond.fieldLink RX2 40 "DrumPlacer$Trace" "itemRead" "[I" ∈ z_G := z_G_in (i := 278) (by decide +kernel) (by decide +kernel)
theorem fl_X2_52 : Cond.fieldLink RX2 52 "DrumPlacer$Trace" "behind" "[I" ∈ z_G := z_G_in (i := 281) (by decide +kernel) (by decide +kernel)
theorem fl_X2_61 : Cond.fieldLink RX2 61 "DrumPlacer$Plan" "wait" "I" ∈ z_G := z_G_in (i := 163) (by decide +kernel) (by decide +kernel)
theorem fl_X2_66 : Cond.fieldLink RX2 66 "DrumPlacer$Plan" "mul" "I" ∈ z_G := z_G_in (i := 173) (by decide +kernel) (by decide +kernel)
theorem fl_X2_69 : Cond.fieldLink RX2 69 "DrumPlacer$Plan" "items" "I" ∈ z_G := z_G_in (i := 183) (by decide +kernel) (by decide +kernel)
theorem fl_X2_72 : Cond.fieldLink RX2 72 "DrumPlacer$Plan" "fixed" "[I" ∈ z_G := z_G_in (i := 199) (by decide +kernel) (by decide +kernel)
theorem fl_X3_9 : Cond.fieldLink RX3 9 "DrumPlacer$Plan" "tracks" "I" ∈ z_G := z_G_in (i := 153) (by decide +kernel) (by decide +kernel)
theorem fl_X3_15 : Cond.fieldLink RX3 15 "DrumPlacer$Plan" "sectors" "I" ∈ z_G := z_G_in (i := 157) (by decide +kernel) (by decide +kernel)
theorem fl_X3_18 : Cond.fieldLink RX3 18 "DrumPlacer$Plan" "wait" "I" ∈ z_G := z_G_in (i := 162) (by decide +kernel) (by decide +kernel)
theorem fl_X3_21 : Cond.fieldLink RX3 21 "DrumPlacer$Plan" "quick" "I" ∈ z_G := z_G_in (i := 167) (by decide +kernel) (by decide +kernel)
theorem fl_X3_24 : Cond.fieldLink RX3 24 "DrumPlacer$Plan" "mul" "I" ∈ z_G := z_G_in (i := 172) (by decide +kernel) (by decide +kernel)
theorem fl_X3_27 : Cond.fieldLink RX3 27 "DrumPlacer$Plan" "lines" "I" ∈ z_G := z_G_in (i := 177) (by decide +kernel) (by decide +kernel)
theorem fl_X3_30 : Cond.fieldLink RX3 30 "DrumPlacer$Plan" "items" "I" ∈ z_G := z_G_in (i := 180) (by decide +kernel) (by decide +kernel)
theorem fl_X3_33 : Cond.fieldLink RX3 33 "DrumPlacer$Plan" "words" "I" ∈ z_G := z_G_in (i := 186) (by decide +kernel) (by decide +kernel)
theorem fl_X3_36 : Cond.fieldLink RX3 36 "DrumPlacer$Plan" "steps" "I" ∈ z_G := z_G_in (i := 189) (by decide +kernel) (by decide +kernel)
theorem fl_X3_39 : Cond.fieldLink RX3 39 "DrumPlacer$Plan" "firstStep" "I" ∈ z_G := z_G_in (i := 192) (by decide +kernel) (by decide +kernel)
theorem fl_X3_42 : Cond.fieldLink RX3 42 "DrumPlacer$Plan" "op" "[I" ∈ z_G := z_G_in (i := 194) (by decide +kernel) (by decide +kernel)
theorem fl_X3_46 : Cond.fieldLink RX3 46 "DrumPlacer$Plan" "fixed" "[I" ∈ z_G := z_G_in (i := 198) (by decide +kernel) (by decide +kernel)
theorem fl_X3_49 : Cond.fieldLink RX3 49 "DrumPlacer$Plan" "start" "[I" ∈ z_G := z_G_in (i := 201) (by decide +kernel) (by decide +kernel)
theorem fl_X3_52 : Cond.fieldLink RX3 52 "DrumPlacer$Plan" "target" "[I" ∈ z_G := z_G_in (i := 203) (by decide +kernel) (by decide +kernel)
theorem fl_X3_55 : Cond.fieldLink RX3 55 "DrumPlacer$Plan" "shift" "[I" ∈ z_G := z_G_in (i := 206) (by decide +kernel) (by decide +kernel)
theorem fl_X3_58 : Cond.fieldLink RX3 58 "DrumPlacer$Plan" "next" "[I" ∈ z_G := z_G_in (i := 208) (by decide +kernel) (by decide +kernel)
theorem fl_X3_61 : Cond.fieldLink RX3 61 "DrumPlacer$Plan" "wordItem" "[I" ∈ z_G := z_G_in (i := 211) (by decide +kernel) (by decide +kernel)
theorem fl_X3_64 : Cond.fieldLink RX3 64 "DrumPlacer$Plan" "wordRank" "[I" ∈ z_G := z_G_in (i := 212) (by decide +kernel) (by decide +kernel)
theorem fl_X4_9 : Cond.fieldLink RX4 9 "DrumPlacer$Reader" "names" "[I" ∈ z_G := z_G_in (i := 385) (by decide +kernel) (by decide +kernel)
theorem fl_X4_15 : Cond.fieldLink RX4 15 "DrumPlacer$Reader" "firstName" "[I" ∈ z_G := z_G_in (i := 386) (by decide +kernel) (by decide +kernel)
theorem fl_X4_18 : Cond.fieldLink RX4 18 "DrumPlacer$Reader" "firstPlace" "[I" ∈ z_G := z_G_in (i := 387) (by decide +kernel) (by decide +kernel)
theorem fl_X4_21 : Cond.fieldLink RX4 21 "DrumPlacer$Reader" "lastName" "[I" ∈ z_G := z_G_in (i := 388) (by decide +kernel) (by decide +kernel)
theorem fl_X4_24 : Cond.fieldLink RX4 24 "DrumPlacer$Reader" "lastPlace" "[I" ∈ z_G := z_G_in (i := 389) (by decide +kernel) (by decide +kernel)
theorem fl_X4_27 : Cond.fieldLink RX4 27 "DrumPlacer$Reader" "fault" "I" ∈ z_G := z_G_in (i := 390) (by decide +kernel) (by decide +kernel)
theorem fl_X4_31 : Cond.fieldLink RX4 31 "DrumPlacer$Reader" "faultPlace" "I" ∈ z_G := z_G_in (i := 392) (by decide +kernel) (by decide +kernel)
theorem fl_X4_39 : Cond.fieldLink RX4 39 "DrumPlacer$Reader" "tokens" "LDrumPlacer$Tokens;" ∈ z_G := z_G_in (i := 384) (by decide +kernel) (by decide +kernel)
theorem fl_X4_74 : Cond.fieldLink RX4 74 "DrumPlacer$Plan" "lines" "I" ∈ z_G := z_G_in (i := 178) (by decide +kernel) (by decide +kernel)
theorem fl_X4_77 : Cond.fieldLink RX4 77 "DrumPlacer$Plan" "items" "I" ∈ z_G := z_G_in (i := 181) (by decide +kernel) (by decide +kernel)
theorem fl_X4_84 : Cond.fieldLink RX4 84 "DrumPlacer$Tokens" "kind" "I" ∈ z_G := z_G_in (i := 363) (by decide +kernel) (by decide +kernel)
theorem fl_X4_99 : Cond.fieldLink RX4 99 "DrumPlacer$Plan" "tracks" "I" ∈ z_G := z_G_in (i := 154) (by decide +kernel) (by decide +kernel)
theorem fl_X4_103 : Cond.fieldLink RX4 103 "DrumPlacer$Plan" "sectors" "I" ∈ z_G := z_G_in (i := 158) (by decide +kernel) (by decide +kernel)
theorem fl_X4_107 : Cond.fieldLink RX4 107 "DrumPlacer$Plan" "wait" "I" ∈ z_G := z_G_in (i := 164) (by decide +kernel) (by decide +kernel)
theorem fl_X4_113 : Cond.fieldLink RX4 113 "DrumPlacer$Plan" "quick" "I" ∈ z_G := z_G_in (i := 169) (by decide +kernel) (by decide +kernel)
theorem fl_X4_118 : Cond.fieldLink RX4 118 "DrumPlacer$Plan" "mul" "I" ∈ z_G := z_G_in (i := 174) (by decide +kernel) (by decide +kernel)
theorem fl_X4_120 : Cond.fieldLink RX4 120 "DrumPlacer$Plan" "words" "I" ∈ z_G := z_G_in (i := 187) (by decide +kernel) (by decide +kernel)
theorem fl_X4_152 : Cond.fieldLink RX4 152 "DrumPlacer$Plan" "steps" "I" ∈ z_G := z_G_in (i := 190) (by decide +kernel) (by decide +kernel)
theorem fl_X4_166 : Cond.fieldLink RX4 166 "DrumPlacer$Plan" "op" "[I" ∈ z_G := z_G_in (i := 196) (by decide +kernel) (by decide +kernel)
theorem fl_X4_183 : Cond.fieldLink RX4 183 "DrumPlacer$Plan" "target" "[I" ∈ z_G := z_G_in (i := 205) (by decide +kernel) (by decide +kernel)
theorem fl_X4_186 : Cond.fieldLink RX4 186 "DrumPlacer$Plan" "next" "[I" ∈ z_G := z_G_in (i := 210) (by decide +kernel) (by decide +kernel)
theorem fl_X4_192 : Cond.fieldLink RX4 192 "DrumPlacer$Tokens" "place" "I" ∈ z_G := z_G_in (i := 365) (by decide +kernel) (by decide +kernel)
theorem fl_X4_207 : Cond.fieldLink RX4 207 "DrumPlacer$Tokens" "name" "I" ∈ z_G := z_G_in (i := 369) (by decide +kernel) (by decide +kernel)
theorem fl_X4_210 : Cond.fieldLink RX4 210 "DrumPlacer$Tokens" "number" "I" ∈ z_G := z_G_in (i := 367) (by decide +kernel) (by decide +kernel)
theorem fl_X5_9 : Cond.fieldLink RX5 9 "DrumPlacer$Search" "loose" "[I" ∈ z_G := z_G_in (i := 439) (by decide +kernel) (by decide +kernel)
theorem fl_X5_15 : Cond.fieldLink RX5 15 "DrumPlacer$Search" "looseCount" "I" ∈ z_G := z_G_in (i := 440) (by decide +kernel) (by decide +kernel)
theorem fl_X5_19 : Cond.fieldLink RX5 19 "DrumPlacer$Search" "trial" "[I" ∈ z_G := z_G_in (i := 441) (by decide +kernel) (by decide +kernel)
theorem fl_X5_22 : Cond.fieldLink RX5 22 "DrumPlacer$Search" "taken" "[Z" ∈ z_G := z_G_in (i := 442) (by decide +kernel) (by decide +kernel)
theorem fl_X5_26 : Cond.fieldLink RX5 26 "DrumPlacer$Search" "group" "[I" ∈ z_G := z_G_in (i := 443) (by decide +kernel) (by decide +kernel)
theorem fl_X5_29 : Cond.fieldLink RX5 29 "DrumPlacer$Search" "freeInGroup" "[I" ∈ z_G := z_G_in (i := 444) (by decide +kernel) (by decide +kernel)
theorem fl_X5_32 : Cond.fieldLink RX5 32 "DrumPlacer$Search" "looked" "Z" ∈ z_G := z_G_in (i := 445) (by decide +kernel) (by decide +kernel)
theorem fl_X5_36 : Cond.fieldLink RX5 36 "DrumPlacer$Search" "least" "I" ∈ z_G := z_G_in (i := 446) (by decide +kernel) (by decide +kernel)
theorem fl_X5_39 : Cond.fieldLink RX5 39 "DrumPlacer$Search" "most" "I" ∈ z_G := z_G_in (i := 447) (by decide +kernel) (by decide +kernel)
theorem fl_X5_42 : Cond.fieldLink RX5 42 "DrumPlacer$Search" "ways" "J" ∈ z_G := z_G_in (i := 449) (by decide +kernel) (by decide +kernel)
theorem fl_X5_46 : Cond.fieldLink RX5 46 "DrumPlacer$Search" "first" "[I" ∈ z_G := z_G_in (i := 451) (by decide +kernel) (by decide +kernel)
theorem fl_X5_49 : Cond.fieldLink RX5 49 "DrumPlacer$Search" "plan" "LDrumPlacer$Plan;" ∈ z_G := z_G_in (i := 437) (by decide +kernel) (by decide +kernel)
theorem fl_X5_53 : Cond.fieldLink RX5 53 "DrumPlacer$Search" "clock" "LDrumPlacer$Clock;" ∈ z_G := z_G_in (i := 438) (by decide +kernel) (by decide +kernel)
theorem fl_X5_63 : Cond.fieldLink RX5 63 "DrumPlacer$Plan" "quick" "I" ∈ z_G := z_G_in (i := 168) (by decide +kernel) (by decide +kernel)
theorem fl_X5_78 : Cond.fieldLink RX5 78 "DrumPlacer$Plan" "items" "I" ∈ z_G := z_G_in (i := 184) (by decide +kernel) (by decide +kernel)
theorem fl_X5_81 : Cond.fieldLink RX5 81 "DrumPlacer$Plan" "fixed" "[I" ∈ z_G := z_G_in (i := 200) (by decide +kernel) (by decide +kernel)
theorem fl_X5_96 : Cond.fieldLink RX5 96 "DrumPlacer$Plan" "sectors" "I" ∈ z_G := z_G_in (i := 159) (by decide +kernel) (by decide +kernel)
theorem fl_X5_107 : Cond.fieldLink RX5 107 "DrumPlacer$Plan" "wait" "I" ∈ z_G := z_G_in (i := 166) (by decide +kernel) (by decide +kernel)
theorem fl_X6_9 : Cond.fieldLink RX6 9 "DrumPlacer$Tape" "bytes" "[I" ∈ z_G := z_G_in (i := 138) (by decide +kernel) (by decide +kernel)
theorem fl_X6_15 : Cond.fieldLink RX6 15 "DrumPlacer$Tape" "size" "I" ∈ z_G := z_G_in (i := 139) (by decide +kernel) (by decide +kernel)
theorem fl_X7_11 : Cond.fieldLink RX7 11 "DrumPlacer$Tokens" "kind" "I" ∈ z_G := z_G_in (i := 362) (by decide +kernel) (by decide +kernel)
theorem fl_X7_15 : Cond.fieldLink RX7 15 "DrumPlacer$Tokens" "place" "I" ∈ z_G := z_G_in (i := 364) (by decide +kernel) (by decide +kernel)
theorem fl_X7_18 : Cond.fieldLink RX7 18 "DrumPlacer$Tokens" "number" "I" ∈ z_G := z_G_in (i := 366) (by decide +kernel) (by decide +kernel)
theorem fl_X7_21 : Cond.fieldLink RX7 21 "DrumPlacer$Tokens" "name" "I" ∈ z_G := z_G_in (i := 368) (by decide +kernel) (by decide +kernel)
theorem fl_X7_24 : Cond.fieldLink RX7 24 "DrumPlacer$Tokens" "behind" "I" ∈ z_G := z_G_in (i := 370) (by decide +kernel) (by decide +kernel)
theorem fl_X7_27 : Cond.fieldLink RX7 27 "DrumPlacer$Tokens" "tape" "LDrumPlacer$Tape;" ∈ z_G := z_G_in (i := 361) (by decide +kernel) (by decide +kernel)
theorem fl_X8_9 : Cond.fieldLink RX8 9 "DrumPlacer$Trace" "done" "I" ∈ z_G := z_G_in (i := 257) (by decide +kernel) (by decide +kernel)
theorem fl_X8_15 : Cond.fieldLink RX8 15 "DrumPlacer$Trace" "ending" "I" ∈ z_G := z_G_in (i := 259) (by decide +kernel) (by decide +kernel)
theorem fl_X8_18 : Cond.fieldLink RX8 18 "DrumPlacer$Trace" "acc" "I" ∈ z_G := z_G_in (i := 261) (by decide +kernel) (by decide +kernel)
theorem fl_X8_21 : Cond.fieldLink RX8 21 "DrumPlacer$Trace" "value" "[I" ∈ z_G := z_G_in (i := 263) (by decide +kernel) (by decide +kernel)
theorem fl_X8_25 : Cond.fieldLink RX8 25 "DrumPlacer$Trace" "operand" "[I" ∈ z_G := z_G_in (i := 265) (by decide +kernel) (by decide +kernel)
theorem fl_X8_28 : Cond.fieldLink RX8 28 "DrumPlacer$Trace" "stepDone" "[I" ∈ z_G := z_G_in (i := 266) (by decide +kernel) (by decide +kernel)
theorem fl_X8_31 : Cond.fieldLink RX8 31 "DrumPlacer$Trace" "operandRead" "[I" ∈ z_G := z_G_in (i := 268) (by decide +kernel) (by decide +kernel)
theorem fl_X8_34 : Cond.fieldLink RX8 34 "DrumPlacer$Trace" "accBehind" "[I" ∈ z_G := z_G_in (i := 270) (by decide +kernel) (by decide +kernel)
theorem fl_X8_37 : Cond.fieldLink RX8 37 "DrumPlacer$Trace" "readingOf" "[I" ∈ z_G := z_G_in (i := 272) (by decide +kernel) (by decide +kernel)
theorem fl_X8_40 : Cond.fieldLink RX8 40 "DrumPlacer$Trace" "readings" "I" ∈ z_G := z_G_in (i := 274) (by decide +kernel) (by decide +kernel)
theorem fl_X8_43 : Cond.fieldLink RX8 43 "DrumPlacer$Trace" "itemRead" "[I" ∈ z_G := z_G_in (i := 277) (by decide +kernel) (by decide +kernel)
theorem fl_X8_46 : Cond.fieldLink RX8 46 "DrumPlacer$Trace" "behind" "[I" ∈ z_G := z_G_in (i := 280) (by decide +kernel) (by decide +kernel)
theorem fl_X8_49 : Cond.fieldLink RX8 49 "DrumPlacer$Trace" "passesToCome" "[I" ∈ z_G := z_G_in (i := 283) (by decide +kernel) (by decide +kernel)
theorem fl_X8_52 : Cond.fieldLink RX8 52 "DrumPlacer$Trace" "passReadings" "[I" ∈ z_G := z_G_in (i := 285) (by decide +kernel) (by decide +kernel)
theorem fl_X8_55 : Cond.fieldLink RX8 55 "DrumPlacer$Trace" "stepsSaved" "[I" ∈ z_G := z_G_in (i := 287) (by decide +kernel) (by decide +kernel)
theorem fl_X8_58 : Cond.fieldLink RX8 58 "DrumPlacer$Trace" "passSteps" "[I" ∈ z_G := z_G_in (i := 288) (by decide +kernel) (by decide +kernel)
theorem fl_X8_61 : Cond.fieldLink RX8 61 "DrumPlacer$Trace" "plan" "LDrumPlacer$Plan;" ∈ z_G := z_G_in (i := 256) (by decide +kernel) (by decide +kernel)
theorem fl_X8_65 : Cond.fieldLink RX8 65 "DrumPlacer$Plan" "start" "[I" ∈ z_G := z_G_in (i := 202) (by decide +kernel) (by decide +kernel)
theorem fl_X8_74 : Cond.fieldLink RX8 74 "DrumPlacer$Plan" "target" "[I" ∈ z_G := z_G_in (i := 204) (by decide +kernel) (by decide +kernel)
theorem fl_X8_77 : Cond.fieldLink RX8 77 "DrumPlacer$Plan" "firstStep" "I" ∈ z_G := z_G_in (i := 193) (by decide +kernel) (by decide +kernel)
theorem fl_X8_91 : Cond.fieldLink RX8 91 "DrumPlacer$Plan" "op" "[I" ∈ z_G := z_G_in (i := 195) (by decide +kernel) (by decide +kernel)
theorem fl_X8_105 : Cond.fieldLink RX8 105 "DrumPlacer$Plan" "next" "[I" ∈ z_G := z_G_in (i := 209) (by decide +kernel) (by decide +kernel)
theorem fl_X8_112 : Cond.fieldLink RX8 112 "DrumPlacer$Plan" "shift" "[I" ∈ z_G := z_G_in (i := 207) (by decide +kernel) (by decide +kernel)
theorem fl_X10_7 : Cond.fieldLink RX10 7 "DrumPlacerModel" "mem" "[I" ∈ z_G := z_G_in (i := 1170) (by decide +kernel) (by decide +kernel)
theorem fl_X10_13 : Cond.fieldLink RX10 13 "DrumPlacerModel" "was" "[I" ∈ z_G := z_G_in (i := 1171) (by decide +kernel) (by decide +kernel)
theorem fl_X10_16 : Cond.fieldLink RX10 16 "DrumPlacerModel" "past" "[I" ∈ z_G := z_G_in (i := 1172) (by decide +kernel) (by decide +kernel)
theorem fl_X10_19 : Cond.fieldLink RX10 19 "DrumPlacerModel" "tape" "[I" ∈ z_G := z_G_in (i := 1173) (by decide +kernel) (by decide +kernel)
theorem fl_X10_22 : Cond.fieldLink RX10 22 "DrumPlacerModel" "faultPlace" "I" ∈ z_G := z_G_in (i := 1176) (by decide +kernel) (by decide +kernel)
theorem fl_X10_26 : Cond.fieldLink RX10 26 "DrumPlacerModel" "nameAt" "[I" ∈ z_G := z_G_in (i := 1185) (by decide +kernel) (by decide +kernel)
theorem fl_X10_29 : Cond.fieldLink RX10 29 "DrumPlacerModel" "nameLong" "[I" ∈ z_G := z_G_in (i := 1186) (by decide +kernel) (by decide +kernel)
theorem fl_X10_32 : Cond.fieldLink RX10 32 "DrumPlacerModel" "refAt" "[I" ∈ z_G := z_G_in (i := 1187) (by decide +kernel) (by decide +kernel)
theorem fl_X10_35 : Cond.fieldLink RX10 35 "DrumPlacerModel" "refLong" "[I" ∈ z_G := z_G_in (i := 1188) (by decide +kernel) (by decide +kernel)
theorem fl_X10_38 : Cond.fieldLink RX10 38 "DrumPlacerModel" "refOf" "[I" ∈ z_G := z_G_in (i := 1189) (by decide +kernel) (by decide +kernel)
theorem fl_X10_41 : Cond.fieldLink RX10 41 "DrumPlacerModel" "refIsLast" "[Z" ∈ z_G := z_G_in (i := 1190) (by decide +kernel) (by decide +kernel)
theorem fl_X10_45 : Cond.fieldLink RX10 45 "DrumPlacerModel" "readItem" "[I" ∈ z_G := z_G_in (i := 1194) (by decide +kernel) (by decide +kernel)
theorem fl_X10_48 : Cond.fieldLink RX10 48 "DrumPlacerModel" "readGap" "[I" ∈ z_G := z_G_in (i := 1195) (by decide +kernel) (by decide +kernel)
theorem fl_X10_51 : Cond.fieldLink RX10 51 "DrumPlacerModel" "readWhen" "[I" ∈ z_G := z_G_in (i := 1196) (by decide +kernel) (by decide +kernel)
theorem fl_X10_54 : Cond.fieldLink RX10 54 "DrumPlacerModel" "doneItem" "[I" ∈ z_G := z_G_in (i := 1199) (by decide +kernel) (by decide +kernel)
theorem fl_X10_57 : Cond.fieldLink RX10 57 "DrumPlacerModel" "doneOperand" "[I" ∈ z_G := z_G_in (i := 1200) (by decide +kernel) (by decide +kernel)
theorem fl_X10_60 : Cond.fieldLink RX10 60 "DrumPlacerModel" "doneRead" "[I" ∈ z_G := z_G_in (i := 1201) (by decide +kernel) (by decide +kernel)
theorem fl_X10_63 : Cond.fieldLink RX10 63 "DrumPlacerModel" "doneAcc" "[I" ∈ z_G := z_G_in (i := 1202) (by decide +kernel) (by decide +kernel)
theorem fl_X10_66 : Cond.fieldLink RX10 66 "DrumPlacerModel" "has" "[I" ∈ z_G := z_G_in (i := 1206) (by decide +kernel) (by decide +kernel)
theorem fl_X10_69 : Cond.fieldLink RX10 69 "DrumPlacerModel" "operand" "[I" ∈ z_G := z_G_in (i := 1207) (by decide +kernel) (by decide +kernel)
theorem fl_X10_72 : Cond.fieldLink RX10 72 "DrumPlacerModel" "places" "[I" ∈ z_G := z_G_in (i := 1208) (by decide +kernel) (by decide +kernel)
theorem fl_X10_75 : Cond.fieldLink RX10 75 "DrumPlacerModel" "laid" "[I" ∈ z_G := z_G_in (i := 1211) (by decide +kernel) (by decide +kernel)
theorem fl_X10_78 : Cond.fieldLink RX10 78 "DrumPlacerModel" "bestPlaces" "[I" ∈ z_G := z_G_in (i := 1216) (by decide +kernel) (by decide +kernel)
theorem fl_X10_81 : Cond.fieldLink RX10 81 "DrumPlacerModel" "classOf" "[I" ∈ z_G := z_G_in (i := 1217) (by decide +kernel) (by decide +kernel)
theorem fl_X10_84 : Cond.fieldLink RX10 84 "DrumPlacerModel" "classHas" "[I" ∈ z_G := z_G_in (i := 1218) (by decide +kernel) (by decide +kernel)
theorem fl_X10_87 : Cond.fieldLink RX10 87 "DrumPlacerModel" "pick" "[I" ∈ z_G := z_G_in (i := 1219) (by decide +kernel) (by decide +kernel)
theorem fl_X10_90 : Cond.fieldLink RX10 90 "DrumPlacerModel" "freeItem" "[I" ∈ z_G := z_G_in (i := 1220) (by decide +kernel) (by decide +kernel)
theorem fl_X10_93 : Cond.fieldLink RX10 93 "DrumPlacerModel" "taped" "I" ∈ z_G := z_G_in (i := 1174) (by decide +kernel) (by decide +kernel)
theorem fl_X10_100 : Cond.fieldLink RX10 100 "DrumPlacerModel" "at" "I" ∈ z_G := z_G_in (i := 1177) (by decide +kernel) (by decide +kernel)
theorem fl_X10_107 : Cond.fieldLink RX10 107 "DrumPlacerModel" "begin" "I" ∈ z_G := z_G_in (i := 1178) (by decide +kernel) (by decide +kernel)
theorem fl_X10_110 : Cond.fieldLink RX10 110 "DrumPlacerModel" "value" "I" ∈ z_G := z_G_in (i := 1180) (by decide +kernel) (by decide +kernel)
theorem fl_X10_113 : Cond.fieldLink RX10 113 "DrumPlacerModel" "kept" "I" ∈ z_G := z_G_in (i := 1181) (by decide +kernel) (by decide +kernel)
theorem fl_X10_116 : Cond.fieldLink RX10 116 "DrumPlacerModel" "token" "I" ∈ z_G := z_G_in (i := 1179) (by decide +kernel) (by decide +kernel)
theorem fl_X10_141 : Cond.fieldLink RX10 141 "DrumPlacerModel" "bad" "Z" ∈ z_G := z_G_in (i := 1182) (by decide +kernel) (by decide +kernel)
theorem fl_X10_145 : Cond.fieldLink RX10 145 "DrumPlacerModel" "badKind" "I" ∈ z_G := z_G_in (i := 1183) (by decide +kernel) (by decide +kernel)
theorem fl_X10_148 : Cond.fieldLink RX10 148 "DrumPlacerModel" "badPlace" "I" ∈ z_G := z_G_in (i := 1184) (by decide +kernel) (by decide +kernel)
theorem fl_X10_194 : Cond.fieldLink RX10 194 "DrumPlacerModel" "refs" "I" ∈ z_G := z_G_in (i := 1191) (by decide +kernel) (by decide +kernel)
theorem fl_X10_202 : Cond.fieldLink RX10 202 "DrumPlacerModel" "words" "I" ∈ z_G := z_G_in (i := 1192) (by decide +kernel) (by decide +kernel)
theorem fl_X10_205 : Cond.fieldLink RX10 205 "DrumPlacerModel" "steps" "I" ∈ z_G := z_G_in (i := 1193) (by decide +kernel) (by decide +kernel)
theorem fl_X10_234 : Cond.fieldLink RX10 234 "DrumPlacerModel" "faultKind" "I" ∈ z_G := z_G_in (i := 1175) (by decide +kernel) (by decide +kernel)
theorem fl_X10_240 : Cond.fieldLink RX10 240 "DrumPlacerModel" "isBest" "Z" ∈ z_G := z_G_in (i := 1212) (by decide +kernel) (by decide +kernel)
theorem fl_X10_261 : Cond.fieldLink RX10 261 "DrumPlacerModel" "reads" "I" ∈ z_G := z_G_in (i := 1197) (by decide +kernel) (by decide +kernel)
theorem fl_X10_263 : Cond.fieldLink RX10 263 "DrumPlacerModel" "done" "I" ∈ z_G := z_G_in (i := 1203) (by decide +kernel) (by decide +kernel)
theorem fl_X10_266 : Cond.fieldLink RX10 266 "DrumPlacerModel" "acc" "I" ∈ z_G := z_G_in (i := 1204) (by decide +kernel) (by decide +kernel)
theorem fl_X10_269 : Cond.fieldLink RX10 269 "DrumPlacerModel" "end" "I" ∈ z_G := z_G_in (i := 1205) (by decide +kernel) (by decide +kernel)
theorem fl_X10_276 : Cond.fieldLink RX10 276 "DrumPlacerModel" "endsByMul" "Z" ∈ z_G := z_G_in (i := 1198) (by decide +kernel) (by decide +kernel)
theorem fl_X10_288 : Cond.fieldLink RX10 288 "DrumPlacerModel" "wait" "I" ∈ z_G := z_G_in (i := 1209) (by decide +kernel) (by decide +kernel)
theorem fl_X10_290 : Cond.fieldLink RX10 290 "DrumPlacerModel" "quick" "I" ∈ z_G := z_G_in (i := 1210) (by decide +kernel) (by decide +kernel)
theorem fl_X10_342 : Cond.fieldLink RX10 342 "DrumPlacerModel" "classes" "I" ∈ z_G := z_G_in (i := 1222) (by decide +kernel) (by decide +kernel)
theorem fl_X10_351 : Cond.fieldLink RX10 351 "DrumPlacerModel" "picks" "I" ∈ z_G := z_G_in (i := 1221) (by decide +kernel) (by decide +kernel)
theorem fl_X10_355 : Cond.fieldLink RX10 355 "DrumPlacerModel" "leastTime" "I" ∈ z_G := z_G_in (i := 1213) (by decide +kernel) (by decide +kernel)
theorem fl_X10_358 : Cond.fieldLink RX10 358 "DrumPlacerModel" "leastWays" "J" ∈ z_G := z_G_in (i := 1214) (by decide +kernel) (by decide +kernel)
theorem fl_X10_362 : Cond.fieldLink RX10 362 "DrumPlacerModel" "mostTime" "I" ∈ z_G := z_G_in (i := 1215) (by decide +kernel) (by decide +kernel)
theorem fl_J0_9 : Cond.fieldLink RJ0 9 "java/lang/String" "value" "[B" ∈ z_G := z_G_in (i := 1717) (by decide +kernel) (by decide +kernel)
theorem fl_J0_15 : Cond.fieldLink RJ0 15 "java/lang/String" "coder" "B" ∈ z_G := z_G_in (i := 1718) (by decide +kernel) (by decide +kernel)
theorem fl_J0_38 : Cond.fieldLink RJ0 38 "java/lang/String" "COMPACT_STRINGS" "Z" ∈ z_G := z_G_in (i := 620) (by decide +kernel) (by decide +kernel)
theorem fl_J0_1053 : Cond.fieldLink RJ0 1053 "jdk/internal/util/Preconditions" "SIOOBE_FORMATTER" "Ljava/util/function/BiFunction;" ∈ z_G := z_G_in (i := 636) (by decide +kernel) (by decide +kernel)
theorem fl_J2_44 : Cond.fieldLink RJ2 44 "java/lang/StringUTF16" "$assertionsDisabled" "Z" ∈ z_G := z_G_in (i := 654) (by decide +kernel) (by decide +kernel)
theorem fl_J2_59 : Cond.fieldLink RJ2 59 "java/lang/StringUTF16" "HI_BYTE_SHIFT" "I" ∈ z_G := z_G_in (i := 656) (by decide +kernel) (by decide +kernel)
theorem fl_J2_63 : Cond.fieldLink RJ2 63 "java/lang/StringUTF16" "LO_BYTE_SHIFT" "I" ∈ z_G := z_G_in (i := 658) (by decide +kernel) (by decide +kernel)
theorem ml_X9_15 : Cond.methodLink RX9 15 yX8_init ∈ z_G := z_G_in (i := 252) (by decide +kernel) (by decide +kernel)
theorem ml_X9_20 : Cond.methodLink RX9 20 yX1_init ∈ z_G := z_G_in (i := 326) (by decide +kernel) (by decide +kernel)
theorem ml_X9_31 : Cond.methodLink RX9 31 yX4_init ∈ z_G := z_G_in (i := 351) (by decide +kernel) (by decide +kernel)
theorem ml_X9_55 : Cond.methodLink RX9 55 yX2_init ∈ z_G := z_G_in (i := 413) (by decide +kernel) (by decide +kernel)
theorem ml_X9_64 : Cond.methodLink RX9 64 yX5_init ∈ z_G := z_G_in (i := 433) (by decide +kernel) (by decide +kernel)
theorem ml_X9_95 : Cond.methodLink RX9 95 yX6_append ∈ z_G := z_G_in (i := 538) (by decide +kernel) (by decide +kernel)
theorem ml_X9_99 : Cond.methodLink RX9 99 yX4_readText ∈ z_G := z_G_in (i := 550) (by decide +kernel) (by decide +kernel)
theorem ml_X9_104 : Cond.methodLink RX9 104 yX3_copyFrom ∈ z_G := z_G_in (i := 792) (by decide +kernel) (by decide +kernel)
theorem ml_X9_107 : Cond.methodLink RX9 107 yX8_perform ∈ z_G := z_G_in (i := 803) (by decide +kernel) (by decide +kernel)
theorem ml_X9_110 : Cond.methodLink RX9 110 yX2_layInOrder ∈ z_G := z_G_in (i := 845) (by decide +kernel) (by decide +kernel)
theorem ml_X9_114 : Cond.methodLink RX9 114 yX5_forget ∈ z_G := z_G_in (i := 871) (by decide +kernel) (by decide +kernel)
theorem ml_X9_144 : Cond.methodLink RX9 144 yX3_loose ∈ z_G := z_G_in (i := 884) (by decide +kernel) (by decide +kernel)
theorem ml_X9_148 : Cond.methodLink RX9 148 yX3_isItem ∈ z_G := z_G_in (i := 892) (by decide +kernel) (by decide +kernel)
theorem ml_X9_152 : Cond.methodLink RX9 152 yX3_isStep ∈ z_G := z_G_in (i := 893) (by decide +kernel) (by decide +kernel)
theorem ml_X9_155 : Cond.methodLink RX9 155 yX3_isFixed ∈ z_G := z_G_in (i := 894) (by decide +kernel) (by decide +kernel)
theorem ml_X9_161 : Cond.methodLink RX9 161 yX3_isAddress ∈ z_G := z_G_in (i := 902) (by decide +kernel) (by decide +kernel)
theorem ml_X9_164 : Cond.methodLink RX9 164 yX9_itemAt ∈ z_G := z_G_in (i := 903) (by decide +kernel) (by decide +kernel)
theorem ml_X9_177 : Cond.methodLink RX9 177 yX3_isWord ∈ z_G := z_G_in (i := 923) (by decide +kernel) (by decide +kernel)
theorem ml_X9_192 : Cond.methodLink RX9 192 yX9_whenRead ∈ z_G := z_G_in (i := 928) (by decide +kernel) (by decide +kernel)
theorem ml_X9_198 : Cond.methodLink RX9 198 yX9_timeNow ∈ z_G := z_G_in (i := 932) (by decide +kernel) (by decide +kernel)
theorem ml_X9_201 : Cond.methodLink RX9 201 yX9_lostInAll ∈ z_G := z_G_in (i := 975) (by decide +kernel) (by decide +kernel)
theorem ml_X9_204 : Cond.methodLink RX9 204 yX1_lostOn ∈ z_G := z_G_in (i := 991) (by decide +kernel) (by decide +kernel)
theorem ml_X9_210 : Cond.methodLink RX9 210 yX8_readingsOf ∈ z_G := z_G_in (i := 1003) (by decide +kernel) (by decide +kernel)
theorem ml_X9_213 : Cond.methodLink RX9 213 yX1_lostBehindFirst ∈ z_G := z_G_in (i := 979) (by decide +kernel) (by decide +kernel)
theorem ml_X9_216 : Cond.methodLink RX9 216 yX1_measure ∈ z_G := z_G_in (i := 936) (by decide +kernel) (by decide +kernel)
theorem ml_X9_220 : Cond.methodLink RX9 220 yX9_isQuick ∈ z_G := z_G_in (i := 1019) (by decide +kernel) (by decide +kernel)
theorem ml_X9_224 : Cond.methodLink RX9 224 yX9_refusalOfMove ∈ z_G := z_G_in (i := 1024) (by decide +kernel) (by decide +kernel)
theorem ml_X9_228 : Cond.methodLink RX9 228 yX9_timeMoved ∈ z_G := z_G_in (i := 1028) (by decide +kernel) (by decide +kernel)
theorem ml_X9_231 : Cond.methodLink RX9 231 yX9_refusalOfExchange ∈ z_G := z_G_in (i := 1039) (by decide +kernel) (by decide +kernel)
theorem ml_X9_234 : Cond.methodLink RX9 234 yX9_timeExchanged ∈ z_G := z_G_in (i := 1043) (by decide +kernel) (by decide +kernel)
theorem ml_X9_237 : Cond.methodLink RX9 237 yX3_addresses ∈ z_G := z_G_in (i := 1051) (by decide +kernel) (by decide +kernel)
theorem ml_X9_240 : Cond.methodLink RX9 240 yX9_isMove ∈ z_G := z_G_in (i := 1052) (by decide +kernel) (by decide +kernel)
theorem ml_X9_243 : Cond.methodLink RX9 243 yX9_refusalOfLaw ∈ z_G := z_G_in (i := 1068) (by decide +kernel) (by decide +kernel)
theorem ml_X9_246 : Cond.methodLink RX9 246 yX9_layBy ∈ z_G := z_G_in (i := 1072) (by decide +kernel) (by decide +kernel)
theorem ml_X9_250 : Cond.methodLink RX9 250 yX5_look ∈ z_G := z_G_in (i := 1088) (by decide +kernel) (by decide +kernel)
theorem ml_X9_260 : Cond.methodLink RX9 260 yX0_keep ∈ z_G := z_G_in (i := 1135) (by decide +kernel) (by decide +kernel)
theorem ml_X9_264 : Cond.methodLink RX9 264 yX9_exchange ∈ z_G := z_G_in (i := 1144) (by decide +kernel) (by decide +kernel)
theorem ml_X9_268 : Cond.methodLink RX9 268 yX0_backTo ∈ z_G := z_G_in (i := 1156) (by decide +kernel) (by decide +kernel)
theorem ml_X9_271 : Cond.methodLink RX9 271 yX1_whenOf ∈ z_G := z_G_in (i := 959) (by decide +kernel) (by decide +kernel)
theorem ml_X9_274 : Cond.methodLink RX9 274 yX1_lostAtFirst ∈ z_G := z_G_in (i := 983) (by decide +kernel) (by decide +kernel)
theorem ml_X9_277 : Cond.methodLink RX9 277 yX1_aim ∈ z_G := z_G_in (i := 1032) (by decide +kernel) (by decide +kernel)
theorem ml_X9_281 : Cond.methodLink RX9 281 yX1_aimItem ∈ z_G := z_G_in (i := 1033) (by decide +kernel) (by decide +kernel)
theorem ml_X9_285 : Cond.methodLink RX9 285 yX1_walk ∈ z_G := z_G_in (i := 1034) (by decide +kernel) (by decide +kernel)
theorem ml_X9_289 : Cond.methodLink RX9 289 yX2_laySoonest ∈ z_G := z_G_in (i := 1076) (by decide +kernel) (by decide +kernel)
theorem ml_X9_295 : Cond.methodLink RX9 295 yX9_copyItems ∈ z_G := z_G_in (i := 1118) (by decide +kernel) (by decide +kernel)
theorem ml_X9_299 : Cond.methodLink RX9 299 arraycopyName ∈ z_G := z_G_in (i := 799) (by decide +kernel) (by decide +kernel)
theorem ml_X0_19 : Cond.methodLink RX0 19 arraycopyName ∈ z_G := z_G_in (i := 1139) (by decide +kernel) (by decide +kernel)
theorem ml_X1_32 : Cond.methodLink RX1 32 yX1_aim ∈ z_G := z_G_in (i := 940) (by decide +kernel) (by decide +kernel)
theorem ml_X1_36 : Cond.methodLink RX1 36 yX1_walk ∈ z_G := z_G_in (i := 952) (by decide +kernel) (by decide +kernel)
theorem ml_X1_46 : Cond.methodLink RX1 46 yX1_aimItem ∈ z_G := z_G_in (i := 944) (by decide +kernel) (by decide +kernel)
theorem ml_X1_50 : Cond.methodLink RX1 50 yX1_turnAt ∈ z_G := z_G_in (i := 948) (by decide +kernel) (by decide +kernel)
theorem ml_X1_65 : Cond.methodLink RX1 65 yX1_lostFrom ∈ z_G := z_G_in (i := 956) (by decide +kernel) (by decide +kernel)
theorem ml_X2_27 : Cond.methodLink RX2 27 yX2_layFixed ∈ z_G := z_G_in (i := 849) (by decide +kernel) (by decide +kernel)
theorem ml_X2_31 : Cond.methodLink RX2 31 yX2_layRest ∈ z_G := z_G_in (i := 862) (by decide +kernel) (by decide +kernel)
theorem ml_X2_44 : Cond.methodLink RX2 44 yX2_soonest ∈ z_G := z_G_in (i := 1080) (by decide +kernel) (by decide +kernel)
theorem ml_X2_48 : Cond.methodLink RX2 48 yX2_lay ∈ z_G := z_G_in (i := 853) (by decide +kernel) (by decide +kernel)
theorem ml_X2_55 : Cond.methodLink RX2 55 yX1_lostAt ∈ z_G := z_G_in (i := 1084) (by decide +kernel) (by decide +kernel)
theorem ml_X2_75 : Cond.methodLink RX2 75 yX2_leastFree ∈ z_G := z_G_in (i := 866) (by decide +kernel) (by decide +kernel)
theorem ml_X2_79 : Cond.methodLink RX2 79 yX3_isAddress ∈ z_G := z_G_in (i := 857) (by decide +kernel) (by decide +kernel)
theorem ml_X2_83 : Cond.methodLink RX2 83 yX3_addresses ∈ z_G := z_G_in (i := 870) (by decide +kernel) (by decide +kernel)
theorem ml_X3_71 : Cond.methodLink RX3 71 arraycopyName ∈ z_G := z_G_in (i := 802) (by decide +kernel) (by decide +kernel)
theorem ml_X3_77 : Cond.methodLink RX3 77 yX3_addItem ∈ z_G := z_G_in (i := 748) (by decide +kernel) (by decide +kernel)
theorem ml_X3_81 : Cond.methodLink RX3 81 yX3_isItem ∈ z_G := z_G_in (i := 784) (by decide +kernel) (by decide +kernel)
theorem ml_X3_85 : Cond.methodLink RX3 85 yX3_addresses ∈ z_G := z_G_in (i := 861) (by decide +kernel) (by decide +kernel)
theorem ml_X3_89 : Cond.methodLink RX3 89 yX3_isWord ∈ z_G := z_G_in (i := 832) (by decide +kernel) (by decide +kernel)
theorem ml_X4_36 : Cond.methodLink RX4 36 yX7_init ∈ z_G := z_G_in (i := 357) (by decide +kernel) (by decide +kernel)
theorem ml_X4_43 : Cond.methodLink RX4 43 yX3_clear ∈ z_G := z_G_in (i := 554) (by decide +kernel) (by decide +kernel)
theorem ml_X4_48 : Cond.methodLink RX4 48 yX7_begin ∈ z_G := z_G_in (i := 558) (by decide +kernel) (by decide +kernel)
theorem ml_X4_51 : Cond.methodLink RX4 51 yX4_goesOn ∈ z_G := z_G_in (i := 595) (by decide +kernel) (by decide +kernel)
theorem ml_X4_55 : Cond.methodLink RX4 55 yX4_readDrum ∈ z_G := z_G_in (i := 599) (by decide +kernel) (by decide +kernel)
theorem ml_X4_61 : Cond.methodLink RX4 61 yX7_is ∈ z_G := z_G_in (i := 608) (by decide +kernel) (by decide +kernel)
theorem ml_X4_65 : Cond.methodLink RX4 65 yX4_readWord ∈ z_G := z_G_in (i := 690) (by decide +kernel) (by decide +kernel)
theorem ml_X4_68 : Cond.methodLink RX4 68 yX4_readStep ∈ z_G := z_G_in (i := 752) (by decide +kernel) (by decide +kernel)
theorem ml_X4_71 : Cond.methodLink RX4 71 yX4_takeSemicolon ∈ z_G := z_G_in (i := 769) (by decide +kernel) (by decide +kernel)
theorem ml_X4_80 : Cond.methodLink RX4 80 yX4_linkStep ∈ z_G := z_G_in (i := 773) (by decide +kernel) (by decide +kernel)
theorem ml_X4_89 : Cond.methodLink RX4 89 yX4_takeWord ∈ z_G := z_G_in (i := 604) (by decide +kernel) (by decide +kernel)
theorem ml_X4_95 : Cond.methodLink RX4 95 yX4_takeMeasure ∈ z_G := z_G_in (i := 670) (by decide +kernel) (by decide +kernel)
theorem ml_X4_109 : Cond.methodLink RX4 109 yX4_takeQuick ∈ z_G := z_G_in (i := 680) (by decide +kernel) (by decide +kernel)
theorem ml_X4_123 : Cond.methodLink RX4 123 yX3_addresses ∈ z_G := z_G_in (i := 694) (by decide +kernel) (by decide +kernel)
theorem ml_X4_127 : Cond.methodLink RX4 127 yX4_takeItemWord ∈ z_G := z_G_in (i := 698) (by decide +kernel) (by decide +kernel)
theorem ml_X4_131 : Cond.methodLink RX4 131 yX4_takeItemName ∈ z_G := z_G_in (i := 702) (by decide +kernel) (by decide +kernel)
theorem ml_X4_135 : Cond.methodLink RX4 135 yX4_takeMinus ∈ z_G := z_G_in (i := 731) (by decide +kernel) (by decide +kernel)
theorem ml_X4_138 : Cond.methodLink RX4 138 yX4_takeNumber ∈ z_G := z_G_in (i := 674) (by decide +kernel) (by decide +kernel)
theorem ml_X4_142 : Cond.methodLink RX4 142 yX4_takeAddress ∈ z_G := z_G_in (i := 735) (by decide +kernel) (by decide +kernel)
theorem ml_X4_146 : Cond.methodLink RX4 146 yX3_addWord ∈ z_G := z_G_in (i := 744) (by decide +kernel) (by decide +kernel)
theorem ml_X4_155 : Cond.methodLink RX4 155 yX4_takeOperation ∈ z_G := z_G_in (i := 757) (by decide +kernel) (by decide +kernel)
theorem ml_X4_158 : Cond.methodLink RX4 158 yX4_takeReference ∈ z_G := z_G_in (i := 761) (by decide +kernel) (by decide +kernel)
theorem ml_X4_162 : Cond.methodLink RX4 162 yX3_addStep ∈ z_G := z_G_in (i := 765) (by decide +kernel) (by decide +kernel)
theorem ml_X4_169 : Cond.methodLink RX4 169 yX4_itemNamed ∈ z_G := z_G_in (i := 727) (by decide +kernel) (by decide +kernel)
theorem ml_X4_172 : Cond.methodLink RX4 172 yX4_mayBeFirst ∈ z_G := z_G_in (i := 777) (by decide +kernel) (by decide +kernel)
theorem ml_X4_176 : Cond.methodLink RX4 176 yX4_failAt ∈ z_G := z_G_in (i := 664) (by decide +kernel) (by decide +kernel)
theorem ml_X4_179 : Cond.methodLink RX4 179 yX3_isStep ∈ z_G := z_G_in (i := 780) (by decide +kernel) (by decide +kernel)
theorem ml_X4_189 : Cond.methodLink RX4 189 yX3_isWord ∈ z_G := z_G_in (i := 788) (by decide +kernel) (by decide +kernel)
theorem ml_X4_195 : Cond.methodLink RX4 195 yX4_fail ∈ z_G := z_G_in (i := 660) (by decide +kernel) (by decide +kernel)
theorem ml_X4_198 : Cond.methodLink RX4 198 yX7_advance ∈ z_G := z_G_in (i := 668) (by decide +kernel) (by decide +kernel)
theorem ml_X4_201 : Cond.methodLink RX4 201 yX7_isLineWord ∈ z_G := z_G_in (i := 706) (by decide +kernel) (by decide +kernel)
theorem ml_X4_204 : Cond.methodLink RX4 204 yX7_operation ∈ z_G := z_G_in (i := 715) (by decide +kernel) (by decide +kernel)
theorem ml_X4_220 : Cond.methodLink RX4 220 yX3_isToldAddress ∈ z_G := z_G_in (i := 740) (by decide +kernel) (by decide +kernel)
theorem ml_X5_57 : Cond.methodLink RX5 57 yX5_takeFixed ∈ z_G := z_G_in (i := 1092) (by decide +kernel) (by decide +kernel)
theorem ml_X5_60 : Cond.methodLink RX5 60 yX5_groupAddresses ∈ z_G := z_G_in (i := 1097) (by decide +kernel) (by decide +kernel)
theorem ml_X5_68 : Cond.methodLink RX5 68 yX1_aim ∈ z_G := z_G_in (i := 1103) (by decide +kernel) (by decide +kernel)
theorem ml_X5_74 : Cond.methodLink RX5 74 yX5_layLoose ∈ z_G := z_G_in (i := 1104) (by decide +kernel) (by decide +kernel)
theorem ml_X5_84 : Cond.methodLink RX5 84 yX3_isAddress ∈ z_G := z_G_in (i := 1096) (by decide +kernel) (by decide +kernel)
theorem ml_X5_88 : Cond.methodLink RX5 88 yX3_addresses ∈ z_G := z_G_in (i := 1101) (by decide +kernel) (by decide +kernel)
theorem ml_X5_92 : Cond.methodLink RX5 92 yX1_turnAt ∈ z_G := z_G_in (i := 1102) (by decide +kernel) (by decide +kernel)
theorem ml_X5_99 : Cond.methodLink RX5 99 yX5_judge ∈ z_G := z_G_in (i := 1108) (by decide +kernel) (by decide +kernel)
theorem ml_X5_103 : Cond.methodLink RX5 103 yX1_aimItem ∈ z_G := z_G_in (i := 1117) (by decide +kernel) (by decide +kernel)
theorem ml_X5_110 : Cond.methodLink RX5 110 yX1_walk ∈ z_G := z_G_in (i := 1112) (by decide +kernel) (by decide +kernel)
theorem ml_X5_114 : Cond.methodLink RX5 114 yJ9_max_7cf53 ∈ z_G := z_G_in (i := 1113) (by decide +kernel) (by decide +kernel)
theorem ml_X7_31 : Cond.methodLink RX7 31 yX7_advance ∈ z_G := z_G_in (i := 562) (by decide +kernel) (by decide +kernel)
theorem ml_X7_34 : Cond.methodLink RX7 34 yX7_skipBlanks ∈ z_G := z_G_in (i := 566) (by decide +kernel) (by decide +kernel)
theorem ml_X7_37 : Cond.methodLink RX7 37 yX6_byteAt ∈ z_G := z_G_in (i := 570) (by decide +kernel) (by decide +kernel)
theorem ml_X7_43 : Cond.methodLink RX7 43 yX7_isLetter ∈ z_G := z_G_in (i := 577) (by decide +kernel) (by decide +kernel)
theorem ml_X7_47 : Cond.methodLink RX7 47 yX7_takeLetters ∈ z_G := z_G_in (i := 580) (by decide +kernel) (by decide +kernel)
theorem ml_X7_50 : Cond.methodLink RX7 50 yX7_isDigit ∈ z_G := z_G_in (i := 584) (by decide +kernel) (by decide +kernel)
theorem ml_X7_53 : Cond.methodLink RX7 53 yX7_takeDigits ∈ z_G := z_G_in (i := 587) (by decide +kernel) (by decide +kernel)
theorem ml_X7_56 : Cond.methodLink RX7 56 yJ0_length_8abf5 ∈ z_G := z_G_in (i := 612) (by decide +kernel) (by decide +kernel)
theorem ml_X7_62 : Cond.methodLink RX7 62 yJ0_charAt_5068e ∈ z_G := z_G_in (i := 622) (by decide +kernel) (by decide +kernel)
theorem ml_X7_68 : Cond.methodLink RX7 68 yX7_is ∈ z_G := z_G_in (i := 711) (by decide +kernel) (by decide +kernel)
theorem ml_X7_94 : Cond.methodLink RX7 94 yX7_isBlank ∈ z_G := z_G_in (i := 574) (by decide +kernel) (by decide +kernel)
theorem ml_X7_98 : Cond.methodLink RX7 98 yJ9_min_7cf53 ∈ z_G := z_G_in (i := 592) (by decide +kernel) (by decide +kernel)
theorem ml_X8_80 : Cond.methodLink RX8 80 yX3_isStep ∈ z_G := z_G_in (i := 808) (by decide +kernel) (by decide +kernel)
theorem ml_X8_84 : Cond.methodLink RX8 84 yX8_doStep ∈ z_G := z_G_in (i := 809) (by decide +kernel) (by decide +kernel)
theorem ml_X8_88 : Cond.methodLink RX8 88 yX8_markPasses ∈ z_G := z_G_in (i := 833) (by decide +kernel) (by decide +kernel)
theorem ml_X8_94 : Cond.methodLink RX8 94 yX8_addReading ∈ z_G := z_G_in (i := 813) (by decide +kernel) (by decide +kernel)
theorem ml_X8_98 : Cond.methodLink RX8 98 yX3_isItem ∈ z_G := z_G_in (i := 817) (by decide +kernel) (by decide +kernel)
theorem ml_X8_101 : Cond.methodLink RX8 101 yX8_carryOut ∈ z_G := z_G_in (i := 818) (by decide +kernel) (by decide +kernel)
theorem ml_X8_108 : Cond.methodLink RX8 108 yX8_within ∈ z_G := z_G_in (i := 822) (by decide +kernel) (by decide +kernel)
theorem ml_X8_115 : Cond.methodLink RX8 115 yX3_wordFurther ∈ z_G := z_G_in (i := 828) (by decide +kernel) (by decide +kernel)
theorem ml_X8_118 : Cond.methodLink RX8 118 yJ9_floorMod_7cf53 ∈ z_G := z_G_in (i := 825) (by decide +kernel) (by decide +kernel)
theorem ml_X8_123 : Cond.methodLink RX8 123 yX8_weighPasses ∈ z_G := z_G_in (i := 837) (by decide +kernel) (by decide +kernel)
theorem ml_X8_127 : Cond.methodLink RX8 127 yX8_markPassesFrom ∈ z_G := z_G_in (i := 841) (by decide +kernel) (by decide +kernel)
theorem ml_L_9 : Cond.methodLink RL 9 yX9_init ∈ z_G := z_G_in (i := 126) (by decide +kernel) (by decide +kernel)
theorem ml_L_12 : Cond.methodLink RL 12 yX10_init ∈ z_G := z_G_in (i := 1166) (by decide +kernel) (by decide +kernel)
theorem ml_L_13 : Cond.methodLink RL 13 yX9_feed ∈ z_G := z_G_in (i := 534) (by decide +kernel) (by decide +kernel)
theorem ml_L_17 : Cond.methodLink RL 17 yX10_feed ∈ z_G := z_G_in (i := 1330) (by decide +kernel) (by decide +kernel)
theorem ml_L_18 : Cond.methodLink RL 18 yX9_end ∈ z_G := z_G_in (i := 542) (by decide +kernel) (by decide +kernel)
theorem ml_L_22 : Cond.methodLink RL 22 yX10_end ∈ z_G := z_G_in (i := 1334) (by decide +kernel) (by decide +kernel)
theorem ml_L_23 : Cond.methodLink RL 23 yX9_drum ∈ z_G := z_G_in (i := 546) (by decide +kernel) (by decide +kernel)
theorem ml_L_27 : Cond.methodLink RL 27 yX10_drum ∈ z_G := z_G_in (i := 1341) (by decide +kernel) (by decide +kernel)
theorem ml_L_28 : Cond.methodLink RL 28 yX9_fault ∈ z_G := z_G_in (i := 876) (by decide +kernel) (by decide +kernel)
theorem ml_L_31 : Cond.methodLink RL 31 yX10_fault ∈ z_G := z_G_in (i := 1534) (by decide +kernel) (by decide +kernel)
theorem ml_L_32 : Cond.methodLink RL 32 yX9_count ∈ z_G := z_G_in (i := 880) (by decide +kernel) (by decide +kernel)
theorem ml_L_35 : Cond.methodLink RL 35 yX10_count ∈ z_G := z_G_in (i := 1538) (by decide +kernel) (by decide +kernel)
theorem ml_L_36 : Cond.methodLink RL 36 yX9_item ∈ z_G := z_G_in (i := 888) (by decide +kernel) (by decide +kernel)
theorem ml_L_40 : Cond.methodLink RL 40 yX10_item ∈ z_G := z_G_in (i := 1546) (by decide +kernel) (by decide +kernel)
theorem ml_L_41 : Cond.methodLink RL 41 yX9_at ∈ z_G := z_G_in (i := 898) (by decide +kernel) (by decide +kernel)
theorem ml_L_44 : Cond.methodLink RL 44 yX10_at ∈ z_G := z_G_in (i := 1554) (by decide +kernel) (by decide +kernel)
theorem ml_L_45 : Cond.methodLink RL 45 yX9_steps ∈ z_G := z_G_in (i := 907) (by decide +kernel) (by decide +kernel)
theorem ml_L_48 : Cond.methodLink RL 48 yX10_steps ∈ z_G := z_G_in (i := 1562) (by decide +kernel) (by decide +kernel)
theorem ml_L_49 : Cond.methodLink RL 49 yX9_why ∈ z_G := z_G_in (i := 911) (by decide +kernel) (by decide +kernel)
theorem ml_L_52 : Cond.methodLink RL 52 yX10_why ∈ z_G := z_G_in (i := 1566) (by decide +kernel) (by decide +kernel)
theorem ml_L_53 : Cond.methodLink RL 53 yX9_acc ∈ z_G := z_G_in (i := 915) (by decide +kernel) (by decide +kernel)
theorem ml_L_56 : Cond.methodLink RL 56 yX10_acc ∈ z_G := z_G_in (i := 1570) (by decide +kernel) (by decide +kernel)
theorem ml_L_57 : Cond.methodLink RL 57 yX9_value ∈ z_G := z_G_in (i := 919) (by decide +kernel) (by decide +kernel)
theorem ml_L_60 : Cond.methodLink RL 60 yX10_value ∈ z_G := z_G_in (i := 1574) (by decide +kernel) (by decide +kernel)
theorem ml_L_61 : Cond.methodLink RL 61 yX9_done ∈ z_G := z_G_in (i := 924) (by decide +kernel) (by decide +kernel)
theorem ml_L_64 : Cond.methodLink RL 64 yX10_done ∈ z_G := z_G_in (i := 1578) (by decide +kernel) (by decide +kernel)
theorem ml_L_65 : Cond.methodLink RL 65 yX9_time ∈ z_G := z_G_in (i := 963) (by decide +kernel) (by decide +kernel)
theorem ml_L_68 : Cond.methodLink RL 68 yX10_time ∈ z_G := z_G_in (i := 1587) (by decide +kernel) (by decide +kernel)
theorem ml_L_69 : Cond.methodLink RL 69 yX9_rounds ∈ z_G := z_G_in (i := 967) (by decide +kernel) (by decide +kernel)
theorem ml_L_72 : Cond.methodLink RL 72 yX10_rounds ∈ z_G := z_G_in (i := 1591) (by decide +kernel) (by decide +kernel)
theorem ml_L_73 : Cond.methodLink RL 73 yX9_lost ∈ z_G := z_G_in (i := 971) (by decide +kernel) (by decide +kernel)
theorem ml_L_76 : Cond.methodLink RL 76 yX10_lost ∈ z_G := z_G_in (i := 1595) (by decide +kernel) (by decide +kernel)
theorem ml_L_77 : Cond.methodLink RL 77 yX9_lostFor ∈ z_G := z_G_in (i := 987) (by decide +kernel) (by decide +kernel)
theorem ml_L_80 : Cond.methodLink RL 80 yX10_lostFor ∈ z_G := z_G_in (i := 1607) (by decide +kernel) (by decide +kernel)
theorem ml_L_81 : Cond.methodLink RL 81 yX9_worst ∈ z_G := z_G_in (i := 995) (by decide +kernel) (by decide +kernel)
theorem ml_L_84 : Cond.methodLink RL 84 yX10_worst ∈ z_G := z_G_in (i := 1611) (by decide +kernel) (by decide +kernel)
theorem ml_L_85 : Cond.methodLink RL 85 yX9_met ∈ z_G := z_G_in (i := 999) (by decide +kernel) (by decide +kernel)
theorem ml_L_88 : Cond.methodLink RL 88 yX10_met ∈ z_G := z_G_in (i := 1615) (by decide +kernel) (by decide +kernel)
theorem ml_L_89 : Cond.methodLink RL 89 yX9_bound ∈ z_G := z_G_in (i := 1007) (by decide +kernel) (by decide +kernel)
theorem ml_L_92 : Cond.methodLink RL 92 yX10_bound ∈ z_G := z_G_in (i := 1619) (by decide +kernel) (by decide +kernel)
theorem ml_L_93 : Cond.methodLink RL 93 yX9_waiting ∈ z_G := z_G_in (i := 1011) (by decide +kernel) (by decide +kernel)
theorem ml_L_96 : Cond.methodLink RL 96 yX10_waiting ∈ z_G := z_G_in (i := 1623) (by decide +kernel) (by decide +kernel)
theorem ml_L_97 : Cond.methodLink RL 97 yX9_quicker ∈ z_G := z_G_in (i := 1015) (by decide +kernel) (by decide +kernel)
theorem ml_L_100 : Cond.methodLink RL 100 yX10_quicker ∈ z_G := z_G_in (i := 1628) (by decide +kernel) (by decide +kernel)
theorem ml_L_101 : Cond.methodLink RL 101 yX9_moved ∈ z_G := z_G_in (i := 1020) (by decide +kernel) (by decide +kernel)
theorem ml_L_104 : Cond.methodLink RL 104 yX10_moved ∈ z_G := z_G_in (i := 1632) (by decide +kernel) (by decide +kernel)
theorem ml_L_105 : Cond.methodLink RL 105 yX9_swapped ∈ z_G := z_G_in (i := 1035) (by decide +kernel) (by decide +kernel)
theorem ml_L_108 : Cond.methodLink RL 108 yX10_swapped ∈ z_G := z_G_in (i := 1644) (by decide +kernel) (by decide +kernel)
theorem ml_L_109 : Cond.methodLink RL 109 yX9_best ∈ z_G := z_G_in (i := 1047) (by decide +kernel) (by decide +kernel)
theorem ml_L_112 : Cond.methodLink RL 112 yX10_best ∈ z_G := z_G_in (i := 1656) (by decide +kernel) (by decide +kernel)
theorem ml_L_113 : Cond.methodLink RL 113 yX9_pair ∈ z_G := z_G_in (i := 1056) (by decide +kernel) (by decide +kernel)
theorem ml_L_116 : Cond.methodLink RL 116 yX10_pair ∈ z_G := z_G_in (i := 1660) (by decide +kernel) (by decide +kernel)
theorem ml_L_117 : Cond.methodLink RL 117 yX9_idle ∈ z_G := z_G_in (i := 1060) (by decide +kernel) (by decide +kernel)
theorem ml_L_120 : Cond.methodLink RL 120 yX10_idle ∈ z_G := z_G_in (i := 1664) (by decide +kernel) (by decide +kernel)
theorem ml_L_121 : Cond.methodLink RL 121 yX9_lawful ∈ z_G := z_G_in (i := 1064) (by decide +kernel) (by decide +kernel)
theorem ml_L_124 : Cond.methodLink RL 124 yX10_lawful ∈ z_G := z_G_in (i := 1668) (by decide +kernel) (by decide +kernel)
theorem ml_L_125 : Cond.methodLink RL 125 yX9_address ∈ z_G := z_G_in (i := 1119) (by decide +kernel) (by decide +kernel)
theorem ml_L_128 : Cond.methodLink RL 128 yX10_address ∈ z_G := z_G_in (i := 1677) (by decide +kernel) (by decide +kernel)
theorem ml_L_129 : Cond.methodLink RL 129 yX9_ways ∈ z_G := z_G_in (i := 1123) (by decide +kernel) (by decide +kernel)
theorem ml_L_133 : Cond.methodLink RL 133 yX10_ways ∈ z_G := z_G_in (i := 1681) (by decide +kernel) (by decide +kernel)
theorem ml_L_134 : Cond.methodLink RL 134 yX9_dearest ∈ z_G := z_G_in (i := 1127) (by decide +kernel) (by decide +kernel)
theorem ml_L_137 : Cond.methodLink RL 137 yX10_dearest ∈ z_G := z_G_in (i := 1685) (by decide +kernel) (by decide +kernel)
theorem ml_L_138 : Cond.methodLink RL 138 yX9_put ∈ z_G := z_G_in (i := 1131) (by decide +kernel) (by decide +kernel)
theorem ml_L_141 : Cond.methodLink RL 141 yX10_put ∈ z_G := z_G_in (i := 1689) (by decide +kernel) (by decide +kernel)
theorem ml_L_142 : Cond.methodLink RL 142 yX9_swap ∈ z_G := z_G_in (i := 1140) (by decide +kernel) (by decide +kernel)
theorem ml_L_145 : Cond.methodLink RL 145 yX10_swap ∈ z_G := z_G_in (i := 1697) (by decide +kernel) (by decide +kernel)
theorem ml_L_146 : Cond.methodLink RL 146 yX9_lays ∈ z_G := z_G_in (i := 1148) (by decide +kernel) (by decide +kernel)
theorem ml_L_149 : Cond.methodLink RL 149 yX10_lays ∈ z_G := z_G_in (i := 1701) (by decide +kernel) (by decide +kernel)
theorem ml_L_150 : Cond.methodLink RL 150 yX9_undo ∈ z_G := z_G_in (i := 1152) (by decide +kernel) (by decide +kernel)
theorem ml_L_153 : Cond.methodLink RL 153 yX10_undo ∈ z_G := z_G_in (i := 1705) (by decide +kernel) (by decide +kernel)
theorem ml_L_154 : Cond.methodLink RL 154 yX9_anew ∈ z_G := z_G_in (i := 1160) (by decide +kernel) (by decide +kernel)
theorem ml_L_157 : Cond.methodLink RL 157 yX10_anew ∈ z_G := z_G_in (i := 1713) (by decide +kernel) (by decide +kernel)
theorem ml_X10_96 : Cond.methodLink RX10 96 yX10_in ∈ z_G := z_G_in (i := 1338) (by decide +kernel) (by decide +kernel)
theorem ml_X10_103 : Cond.methodLink RX10 103 yX10_isAt ∈ z_G := z_G_in (i := 1349) (by decide +kernel) (by decide +kernel)
theorem ml_X10_119 : Cond.methodLink RX10 119 yX10_keptHere ∈ z_G := z_G_in (i := 1353) (by decide +kernel) (by decide +kernel)
theorem ml_X10_124 : Cond.methodLink RX10 124 yJ9_min_7cf53 ∈ z_G := z_G_in (i := 1361) (by decide +kernel) (by decide +kernel)
theorem ml_X10_132 : Cond.methodLink RX10 132 yJ0_length_8abf5 ∈ z_G := z_G_in (i := 1358) (by decide +kernel) (by decide +kernel)
theorem ml_X10_137 : Cond.methodLink RX10 137 yJ0_charAt_5068e ∈ z_G := z_G_in (i := 1359) (by decide +kernel) (by decide +kernel)
theorem ml_X10_151 : Cond.methodLink RX10 151 yX10_faults ∈ z_G := z_G_in (i := 1370) (by decide +kernel) (by decide +kernel)
theorem ml_X10_155 : Cond.methodLink RX10 155 yX10_next ∈ z_G := z_G_in (i := 1345) (by decide +kernel) (by decide +kernel)
theorem ml_X10_158 : Cond.methodLink RX10 158 yX10_passes ∈ z_G := z_G_in (i := 1366) (by decide +kernel) (by decide +kernel)
theorem ml_X10_162 : Cond.methodLink RX10 162 yX10_isWord ∈ z_G := z_G_in (i := 1379) (by decide +kernel) (by decide +kernel)
theorem ml_X10_166 : Cond.methodLink RX10 166 yX10_reads ∈ z_G := z_G_in (i := 1383) (by decide +kernel) (by decide +kernel)
theorem ml_X10_171 : Cond.methodLink RX10 171 yX10_named ∈ z_G := z_G_in (i := 1375) (by decide +kernel) (by decide +kernel)
theorem ml_X10_181 : Cond.methodLink RX10 181 yX10_isQuick ∈ z_G := z_G_in (i := 1390) (by decide +kernel) (by decide +kernel)
theorem ml_X10_187 : Cond.methodLink RX10 187 yX10_isAlike ∈ z_G := z_G_in (i := 1407) (by decide +kernel) (by decide +kernel)
theorem ml_X10_191 : Cond.methodLink RX10 191 yX10_itemNamed ∈ z_G := z_G_in (i := 1403) (by decide +kernel) (by decide +kernel)
theorem ml_X10_199 : Cond.methodLink RX10 199 yX10_readsRef ∈ z_G := z_G_in (i := 1416) (by decide +kernel) (by decide +kernel)
theorem ml_X10_208 : Cond.methodLink RX10 208 yX10_readsName ∈ z_G := z_G_in (i := 1399) (by decide +kernel) (by decide +kernel)
theorem ml_X10_211 : Cond.methodLink RX10 211 yX10_readsOp ∈ z_G := z_G_in (i := 1411) (by decide +kernel) (by decide +kernel)
theorem ml_X10_214 : Cond.methodLink RX10 214 yX10_isSign ∈ z_G := z_G_in (i := 1420) (by decide +kernel) (by decide +kernel)
theorem ml_X10_218 : Cond.methodLink RX10 218 yX10_many ∈ z_G := z_G_in (i := 1424) (by decide +kernel) (by decide +kernel)
theorem ml_X10_221 : Cond.methodLink RX10 221 yX10_fixedAt ∈ z_G := z_G_in (i := 1428) (by decide +kernel) (by decide +kernel)
theorem ml_X10_225 : Cond.methodLink RX10 225 yX10_readsDrum ∈ z_G := z_G_in (i := 1362) (by decide +kernel) (by decide +kernel)
theorem ml_X10_228 : Cond.methodLink RX10 228 yX10_readsItem ∈ z_G := z_G_in (i := 1395) (by decide +kernel) (by decide +kernel)
theorem ml_X10_231 : Cond.methodLink RX10 231 yX10_resolves ∈ z_G := z_G_in (i := 1432) (by decide +kernel) (by decide +kernel)
theorem ml_X10_237 : Cond.methodLink RX10 237 yX10_wordsOf ∈ z_G := z_G_in (i := 1436) (by decide +kernel) (by decide +kernel)
theorem ml_X10_243 : Cond.methodLink RX10 243 yX10_laysBy ∈ z_G := z_G_in (i := 1440) (by decide +kernel) (by decide +kernel)
theorem ml_X10_246 : Cond.methodLink RX10 246 yX10_takesLaid ∈ z_G := z_G_in (i := 1530) (by decide +kernel) (by decide +kernel)
theorem ml_X10_249 : Cond.methodLink RX10 249 yX10_freeItems ∈ z_G := z_G_in (i := 1542) (by decide +kernel) (by decide +kernel)
theorem ml_X10_252 : Cond.methodLink RX10 252 yX10_isItem ∈ z_G := z_G_in (i := 1550) (by decide +kernel) (by decide +kernel)
theorem ml_X10_255 : Cond.methodLink RX10 255 yX10_itemAt ∈ z_G := z_G_in (i := 1558) (by decide +kernel) (by decide +kernel)
theorem ml_X10_258 : Cond.methodLink RX10 258 yJ9_floorMod_7cf53 ∈ z_G := z_G_in (i := 1475) (by decide +kernel) (by decide +kernel)
theorem ml_X10_272 : Cond.methodLink RX10 272 yX10_reading ∈ z_G := z_G_in (i := 1464) (by decide +kernel) (by decide +kernel)
theorem ml_X10_279 : Cond.methodLink RX10 279 yX10_goes ∈ z_G := z_G_in (i := 1468) (by decide +kernel) (by decide +kernel)
theorem ml_X10_282 : Cond.methodLink RX10 282 yX10_rounded ∈ z_G := z_G_in (i := 1472) (by decide +kernel) (by decide +kernel)
theorem ml_X10_285 : Cond.methodLink RX10 285 yX10_wordBehind ∈ z_G := z_G_in (i := 1476) (by decide +kernel) (by decide +kernel)
theorem ml_X10_292 : Cond.methodLink RX10 292 yX10_waited ∈ z_G := z_G_in (i := 1480) (by decide +kernel) (by decide +kernel)
theorem ml_X10_295 : Cond.methodLink RX10 295 yX10_whenAt ∈ z_G := z_G_in (i := 1488) (by decide +kernel) (by decide +kernel)
theorem ml_X10_298 : Cond.methodLink RX10 298 yX10_takes ∈ z_G := z_G_in (i := 1456) (by decide +kernel) (by decide +kernel)
theorem ml_X10_301 : Cond.methodLink RX10 301 yX10_runs ∈ z_G := z_G_in (i := 1460) (by decide +kernel) (by decide +kernel)
theorem ml_X10_304 : Cond.methodLink RX10 304 yX10_timed ∈ z_G := z_G_in (i := 1513) (by decide +kernel) (by decide +kernel)
theorem ml_X10_307 : Cond.methodLink RX10 307 yX10_hasRun ∈ z_G := z_G_in (i := 1448) (by decide +kernel) (by decide +kernel)
theorem ml_X10_313 : Cond.methodLink RX10 313 yX10_timeNow ∈ z_G := z_G_in (i := 1583) (by decide +kernel) (by decide +kernel)
theorem ml_X10_316 : Cond.methodLink RX10 316 yX10_lostAt ∈ z_G := z_G_in (i := 1603) (by decide +kernel) (by decide +kernel)
theorem ml_X10_319 : Cond.methodLink RX10 319 yX10_lostOf ∈ z_G := z_G_in (i := 1599) (by decide +kernel) (by decide +kernel)
theorem ml_X10_324 : Cond.methodLink RX10 324 yX10_isFree ∈ z_G := z_G_in (i := 1500) (by decide +kernel) (by decide +kernel)
theorem ml_X10_327 : Cond.methodLink RX10 327 yX10_whyNot ∈ z_G := z_G_in (i := 1636) (by decide +kernel) (by decide +kernel)
theorem ml_X10_330 : Cond.methodLink RX10 330 yX10_timeMoved ∈ z_G := z_G_in (i := 1640) (by decide +kernel) (by decide +kernel)
theorem ml_X10_333 : Cond.methodLink RX10 333 yX10_whyNotBoth ∈ z_G := z_G_in (i := 1648) (by decide +kernel) (by decide +kernel)
theorem ml_X10_336 : Cond.methodLink RX10 336 yX10_timeSwapped ∈ z_G := z_G_in (i := 1652) (by decide +kernel) (by decide +kernel)
theorem ml_X10_339 : Cond.methodLink RX10 339 yX10_isTaken ∈ z_G := z_G_in (i := 1484) (by decide +kernel) (by decide +kernel)
theorem ml_X10_345 : Cond.methodLink RX10 345 yX10_laysFixed ∈ z_G := z_G_in (i := 1444) (by decide +kernel) (by decide +kernel)
theorem ml_X10_348 : Cond.methodLink RX10 348 yX10_laysClasses ∈ z_G := z_G_in (i := 1496) (by decide +kernel) (by decide +kernel)
theorem ml_X10_365 : Cond.methodLink RX10 365 yX10_tries ∈ z_G := z_G_in (i := 1505) (by decide +kernel) (by decide +kernel)
theorem ml_X10_369 : Cond.methodLink RX10 369 yX10_weighs ∈ z_G := z_G_in (i := 1509) (by decide +kernel) (by decide +kernel)
theorem ml_X10_373 : Cond.methodLink RX10 373 yX10_placeOf ∈ z_G := z_G_in (i := 1522) (by decide +kernel) (by decide +kernel)
theorem ml_X10_376 : Cond.methodLink RX10 376 yJ9_max_7cf53 ∈ z_G := z_G_in (i := 1517) (by decide +kernel) (by decide +kernel)
theorem ml_X10_379 : Cond.methodLink RX10 379 yX10_isAhead ∈ z_G := z_G_in (i := 1518) (by decide +kernel) (by decide +kernel)
theorem ml_X10_382 : Cond.methodLink RX10 382 yX10_laysSoon ∈ z_G := z_G_in (i := 1452) (by decide +kernel) (by decide +kernel)
theorem ml_X10_385 : Cond.methodLink RX10 385 yX10_triesAll ∈ z_G := z_G_in (i := 1492) (by decide +kernel) (by decide +kernel)
theorem ml_X10_388 : Cond.methodLink RX10 388 yX10_laysRest ∈ z_G := z_G_in (i := 1526) (by decide +kernel) (by decide +kernel)
theorem ml_X10_393 : Cond.methodLink RX10 393 yX10_whyNotLaw ∈ z_G := z_G_in (i := 1672) (by decide +kernel) (by decide +kernel)
theorem ml_X10_396 : Cond.methodLink RX10 396 yX10_keeps ∈ z_G := z_G_in (i := 1693) (by decide +kernel) (by decide +kernel)
theorem ml_X10_399 : Cond.methodLink RX10 399 yX10_goesBack ∈ z_G := z_G_in (i := 1709) (by decide +kernel) (by decide +kernel)
theorem ml_J0_335 : Cond.methodLink RJ0 335 yJ0_coder_7d493 ∈ z_G := z_G_in (i := 616) (by decide +kernel) (by decide +kernel)
theorem ml_J0_492 : Cond.methodLink RJ0 492 yJ0_isLatin1_aae02 ∈ z_G := z_G_in (i := 626) (by decide +kernel) (by decide +kernel)
theorem ml_J0_495 : Cond.methodLink RJ0 495 yJ1_charAt_3b067 ∈ z_G := z_G_in (i := 630) (by decide +kernel) (by decide +kernel)
theorem ml_J0_498 : Cond.methodLink RJ0 498 yJ2_charAt_3b067 ∈ z_G := z_G_in (i := 641) (by decide +kernel) (by decide +kernel)
theorem ml_J0_1059 : Cond.methodLink RJ0 1059 yJ3_checkIndex_8e157 ∈ z_G := z_G_in (i := 638) (by decide +kernel) (by decide +kernel)
theorem ml_J1_9 : Cond.methodLink RJ1 9 yJ0_checkIndex_df160 ∈ z_G := z_G_in (i := 633) (by decide +kernel) (by decide +kernel)
theorem ml_J2_48 : Cond.methodLink RJ2 48 yJ2_length_9d52b ∈ z_G := z_G_in (i := 647) (by decide +kernel) (by decide +kernel)
theorem ml_J2_67 : Cond.methodLink RJ2 67 yJ2_checkIndex_2214a ∈ z_G := z_G_in (i := 644) (by decide +kernel) (by decide +kernel)
theorem ml_J2_71 : Cond.methodLink RJ2 71 yJ2_getChar_3b067 ∈ z_G := z_G_in (i := 651) (by decide +kernel) (by decide +kernel)
theorem ml_J2_414 : Cond.methodLink RJ2 414 yJ0_checkIndex_df160 ∈ z_G := z_G_in (i := 650) (by decide +kernel) (by decide +kernel)
theorem cn_X7_97 : Cond.constant RX7 97 (z_I (100000)) ∈ z_G := z_G_in (i := 591) (by decide +kernel) (by decide +kernel)
theorem cn_X10_123 : Cond.constant RX10 123 (z_I (99999)) ∈ z_G := z_G_in (i := 1360) (by decide +kernel) (by decide +kernel)
theorem cn_X10_354 : Cond.constant RX10 354 (z_I (1000000)) ∈ z_G := z_G_in (i := 1504) (by decide +kernel) (by decide +kernel)
theorem cn_X10_197 : Cond.constantLong RX10 197 (z_L (7)) ∈ z_G := z_G_in (i := 1415) (by decide +kernel) (by decide +kernel)
theorem cn_X10_311 : Cond.constantLong RX10 311 (z_L (4)) ∈ z_G := z_G_in (i := 1582) (by decide +kernel) (by decide +kernel)
theorem cn_X10_322 : Cond.constantLong RX10 322 (z_L (9)) ∈ z_G := z_G_in (i := 1627) (by decide +kernel) (by decide +kernel)
theorem cn_X10_391 : Cond.constantLong RX10 391 (z_L (2)) ∈ z_G := z_G_in (i := 1676) (by decide +kernel) (by decide +kernel)
theorem ini_X9 : Cond.initialized RX9 ∈ z_G := z_G_in (i := 107) (by decide +kernel) (by decide +kernel)
theorem ini_X0 : Cond.initialized RX0 ∈ z_G := z_G_in (i := 116) (by decide +kernel) (by decide +kernel)
theorem ini_X1 : Cond.initialized RX1 ∈ z_G := z_G_in (i := 111) (by decide +kernel) (by decide +kernel)
theorem ini_X2 : Cond.initialized RX2 ∈ z_G := z_G_in (i := 114) (by decide +kernel) (by decide +kernel)
theorem ini_X3 : Cond.initialized RX3 ∈ z_G := z_G_in (i := 109) (by decide +kernel) (by decide +kernel)
theorem ini_X4 : Cond.initialized RX4 ∈ z_G := z_G_in (i := 112) (by decide +kernel) (by decide +kernel)
theorem ini_X5 : Cond.initialized RX5 ∈ z_G := z_G_in (i := 115) (by decide +kernel) (by decide +kernel)
theorem ini_X6 : Cond.initialized RX6 ∈ z_G := z_G_in (i := 108) (by decide +kernel) (by decide +kernel)
theorem ini_X7 : Cond.initialized RX7 ∈ z_G := z_G_in (i := 113) (by decide +kernel) (by decide +kernel)
theorem ini_X8 : Cond.initialized RX8 ∈ z_G := z_G_in (i := 110) (by decide +kernel) (by decide +kernel)
theorem ini_L : Cond.initialized RL ∈ z_G := z_G_in (i := 106) (by decide +kernel) (by decide +kernel)
theorem ini_X10 : Cond.initialized RX10 ∈ z_G := z_G_in (i := 117) (by decide +kernel) (by decide +kernel)
theorem ini_J9 : Cond.initialized RJ9 ∈ z_G := z_G_in (i := 118) (by decide +kernel) (by decide +kernel)
theorem ini_J0 : Cond.initialized RJ0 ∈ z_G := z_G_in (i := 119) (by decide +kernel) (by decide +kernel)
theorem ini_J1 : Cond.initialized RJ1 ∈ z_G := z_G_in (i := 120) (by decide +kernel) (by decide +kernel)
theorem ini_J2 : Cond.initialized RJ2 ∈ z_G := z_G_in (i := 122) (by decide +kernel) (by decide +kernel)
theorem ini_J10 : Cond.initialized RJ10 ∈ z_G := z_G_in (i := 123) (by decide +kernel) (by decide +kernel)
theorem ini_J3 : Cond.initialized RJ3 ∈ z_G := z_G_in (i := 121) (by decide +kernel) (by decide +kernel)
set_option maxRecDepth 100000 in
theorem cw_X0_init : Cond.code yX0_init cX0_init 1 none ∈ z_G := z_G_in (i := 484) rfl rfl
theorem yi_X0_init : Cond.instanceMethod yX0_init ∈ z_G := z_G_in (i := 483) (by decide +kernel) (by decide +kernel)
theorem yd_X0_init : (yX0_init).cls ≠ "java/lang/invoke/MethodHandle" ∧ (yX0_init).cls ≠ "java/lang/invoke/VarHandle" ∧ (parseMethodDescriptor (yX0_init).desc).map (fun d => d.parameters.length) = some 0 := (by decide +kernel)
set_option maxRecDepth 100000 in
theorem cw_X0_keep : Cond.code yX0_keep cX0_keep 2 (some .boolean) ∈ z_G := z_G_in (i := 1138) rfl rfl
theorem yw_X0_keep : Cond.instanceMethod yX0_keep ∈ z_G ∧ Cond.selects RX0 yX0_keep yX0_keep ∈ z_G ∧ Cond.initialized RX0 ∈ z_G ∧ Cond.code yX0_keep cX0_keep 2 (some .boolean) ∈ z_G := ⟨z_G_in (i := 1136) (by decide +kernel) (by decide +kernel), z_G_in (i := 1137) (by decide +kernel) (by decide +kernel), ini_X0, cw_X0_keep⟩
theorem yd_X0_keep : (yX0_keep).cls = RX0 ∧ (yX0_keep).cls ≠ "java/lang/invoke/MethodHandle" ∧ (yX0_keep).cls ≠ "java/lang/invoke/VarHandle" ∧ (parseMethodDescriptor (yX0_keep).desc).map (fun d => d.parameters.length) = some 1 := (by decide +kernel)
set_option maxRecDepth 100000 in
theorem cw_X0_backTo : Cond.code yX0_backTo cX0_backTo 3 none ∈ z_G := z_G_in (i := 1159) rfl rfl
theorem yw_X0_backTo : Cond.instanceMethod yX0_backTo ∈ z_G ∧ Cond.selects RX0 yX0_backTo yX0_backTo ∈ z_G ∧ Cond.initialized RX0 ∈ z_G ∧ Cond.code yX0_backTo cX0_backTo 3 none ∈ z_G := ⟨z_G_in (i := 1157) (by decide +kernel) (by decide +kernel), z_G_in (i := 1158) (by decide +kernel) (by decide +kernel), ini_X0, cw_X0_backTo⟩
theorem yd_X0_backTo : (yX0_backTo).cls = RX0 ∧ (yX0_backTo).cls ≠ "java/lang/invoke/MethodHandle" ∧ (yX0_backTo).cls ≠ "java/lang/invoke/VarHandle" ∧ (parseMethodDescriptor (yX0_backTo).desc).map (fun d => d.parameters.length) = some 2 := (by decide +kernel)
set_option maxRecDepth 100000 in
theorem cw_X1_init : Cond.code yX1_init cX1_init 3 none ∈ z_G := z_G_in (i := 328) rfl rfl
theorem yi_X1_init : Cond.instanceMethod yX1_init ∈ z_G := z_G_in (i := 327) (by decide +kernel) (by decide +kernel)
theorem yd_X1_init : (yX1_init).cls ≠ "java/lang/invoke/MethodHandle" ∧ (yX1_init).cls ≠ "java/lang/invoke/VarHandle" ∧ (parseMethodDescriptor (yX1_init).desc).map (fun d => d.parameters.length) = some 2 := (by decide +kernel)
set_option maxRecDepth 100000 in
theorem cw_X1_measure : Cond.code yX1_measure cX1_measure 4 (some .int) ∈ z_G := z_G_in (i := 939) rfl rfl
theorem yw_X1_measure : Cond.instanceMethod yX1_measure ∈ z_G ∧ Cond.selects RX1 yX1_measure yX1_measure ∈ z_G ∧ Cond.initialized RX1 ∈ z_G ∧ Cond.code yX1_measure cX1_measure 4 (some .int) ∈ z_G := ⟨z_G_in (i := 937) (by decide +kernel) (by decide +kernel), z_G_in (i := 938) (by decide +kernel) (by decide +kernel), ini_X1, cw_X1_measure⟩
theorem yd_X1_measure : (yX1_measure).cls = RX1 ∧ (yX1_measure).cls ≠ "java/lang/invoke/MethodHandle" ∧ (yX1_measure).cls ≠ "java/lang/invoke/VarHandle" ∧ (parseMethodDescriptor (yX1_measure).desc).map (fun d => d.parameters.length) = some 3 := (by decide +kernel)
set_option maxRecDepth 100000 in
theorem cw_X1_aim : Cond.code yX1_aim cX1_aim 4 none ∈ z_G := z_G_in (i := 943) rfl rfl
theorem yw_X1_aim : Cond.instanceMethod yX1_aim ∈ z_G ∧ Cond.selects RX1 yX1_aim yX1_aim ∈ z_G ∧ Cond.initialized RX1 ∈ z_G ∧ Cond.code yX1_aim cX1_aim 4 none ∈ z_G := ⟨z_G_in (i := 941) (by decide +kernel) (by decide +kernel), z_G_in (i := 942) (by decide +kernel) (by decide +kernel), ini_X1, cw_X1_aim⟩
theorem yd_X1_aim : (yX1_aim).cls = RX1 ∧ (yX1_aim).cls ≠ "java/lang/invoke/MethodHandle" ∧ (yX1_aim).cls ≠ "java/lang/invoke/VarHandle" ∧ (parseMethodDescriptor (yX1_aim).desc).map (fun d => d.parameters.length) = some 2 := (by decide +kernel)
set_option maxRecDepth 100000 in
theorem cw_X1_aimItem : Cond.code yX1_aimItem cX1_aimItem 5 none ∈ z_G := z_G_in (i := 947) rfl rfl
theorem yw_X1_aimItem : Cond.instanceMethod yX1_aimItem ∈ z_G ∧ Cond.selects RX1 yX1_aimItem yX1_aimItem ∈ z_G ∧ Cond.initialized RX1 ∈ z_G ∧ Cond.code yX1_aimItem cX1_aimItem 5 none ∈ z_G := ⟨z_G_in (i := 945) (by decide +kernel) (by decide +kernel), z_G_in (i := 946) (by decide +kernel) (by decide +kernel), ini_X1, cw_X1_aimItem⟩
theorem yd_X1_aimItem : (yX1_aimItem).cls = RX1 ∧ (yX1_aimItem).cls ≠ "java/lang/invoke/MethodHandle" ∧ (yX1_aimItem).cls ≠ "java/lang/invoke/VarHandle" ∧ (parseMethodDescriptor (yX1_aimItem).desc).map (fun d => d.parameters.length) = some 3 := (by decide +kernel)
set_option maxRecDepth 100000 in
theorem cw_X1_walk : Cond.code yX1_walk cX1_walk 12 (some .int) ∈ z_G := z_G_in (i := 955) rfl rfl
theorem yw_X1_walk : Cond.instanceMethod yX1_walk ∈ z_G ∧ Cond.selects RX1 yX1_walk yX1_walk ∈ z_G ∧ Cond.initialized RX1 ∈ z_G ∧ Cond.code yX1_walk cX1_walk 12 (some .int) ∈ z_G := ⟨z_G_in (i := 953) (by decide +kernel) (by decide +kernel), z_G_in (i := 954) (by decide +kernel) (by decide +kernel), ini_X1, cw_X1_walk⟩
theorem yd_X1_walk : (yX1_walk).cls = RX1 ∧ (yX1_walk).cls ≠ "java/lang/invoke/MethodHandle" ∧ (yX1_walk).cls ≠ "java/lang/invoke/VarHandle" ∧ (parseMethodDescriptor (yX1_walk).desc).map (fun d => d.parameters.length) = some 2 := (by decide +kernel)
set_option maxRecDepth 100000 in
theorem cw_X1_turnAt : Cond.code yX1_turnAt cX1_turnAt 4 (some .int) ∈ z_G := z_G_in (i := 951) rfl rfl
theorem yw_X1_turnAt : Cond.instanceMethod yX1_turnAt ∈ z_G ∧ Cond.selects RX1 yX1_turnAt yX1_turnAt ∈ z_G ∧ Cond.initialized RX1 ∈ z_G ∧ Cond.code yX1_turnAt cX1_turnAt 4 (some .int) ∈ z_G := ⟨z_G_in (i := 949) (by decide +kernel) (by decide +kernel), z_G_in (i := 950) (by decide +kernel) (by decide +kernel), ini_X1, cw_X1_turnAt⟩
theorem yd_X1_turnAt : (yX1_turnAt).cls = RX1 ∧ (yX1_turnAt).cls ≠ "java/lang/invoke/MethodHandle" ∧ (yX1_turnAt).cls ≠ "java/lang/invoke/VarHandle" ∧ (parseMethodDescriptor (yX1_turnAt).desc).map (fun d => d.parameters.length) = some 2 := (by decide +kernel)
set_option maxRecDepth 100000 in
theorem cw_X1_lostAt : Cond.code yX1_lostAt cX1_lostAt 4 (some .int) ∈ z_G := z_G_in (i := 1087) rfl rfl
theorem yw_X1_lostAt : Cond.instanceMethod yX1_lostAt ∈ z_G ∧ Cond.selects RX1 yX1_lostAt yX1_lostAt ∈ z_G ∧ Cond.initialized RX1 ∈ z_G ∧ Cond.code yX1_lostAt cX1_lostAt 4 (some .int) ∈ z_G := ⟨z_G_in (i := 1085) (by decide +kernel) (by decide +kernel), z_G_in (i := 1086) (by decide +kernel) (by decide +kernel), ini_X1, cw_X1_lostAt⟩
theorem yd_X1_lostAt : (yX1_lostAt).cls = RX1 ∧ (yX1_lostAt).cls ≠ "java/lang/invoke/MethodHandle" ∧ (yX1_lostAt).cls ≠ "java/lang/invoke/VarHandle" ∧ (parseMethodDescriptor (yX1_lostAt).desc).map (fun d => d.parameters.length) = some 2 := (by decide +kernel)
set_option maxRecDepth 100000 in
theorem cw_X1_lostFrom : Cond.code yX1_lostFrom cX1_lostFrom 4 (some .int) ∈ z_G := z_G_in (i := 958) rfl rfl
theorem yw_X1_lostFrom : Cond.static yX1_lostFrom ∈ z_G ∧ Cond.initialized (yX1_lostFrom).cls ∈ z_G ∧ Cond.code yX1_lostFrom cX1_lostFrom 4 (some .int) ∈ z_G := ⟨z_G_in (i := 957) (by decide +kernel) (by decide +kernel), ini_X1, cw_X1_lostFrom⟩
theorem yd_X1_lostFrom : (yX1_lostFrom).cls ≠ "java/lang/invoke/MethodHandle" ∧ (yX1_lostFrom).cls ≠ "java/lang/invoke/VarHandle" ∧ (parseMethodDescriptor (yX1_lostFrom).desc).map (fun d => d.parameters.length) = some 3 := (by decide +kernel)
set_option maxRecDepth 100000 in
theorem cw_X1_whenOf : Cond.code yX1_whenOf cX1_whenOf 2 (some .int) ∈ z_G := z_G_in (i := 962) rfl rfl
theorem yw_X1_whenOf : Cond.instanceMethod yX1_whenOf ∈ z_G ∧ Cond.selects RX1 yX1_whenOf yX1_whenOf ∈ z_G ∧ Cond.initialized RX1 ∈ z_G ∧ Cond.code yX1_whenOf cX1_whenOf 2 (some .int) ∈ z_G := ⟨z_G_in (i := 960) (by decide +kernel) (by decide +kernel), z_G_in (i := 961) (by decide +kernel) (by decide +kernel), ini_X1, cw_X1_whenOf⟩
theorem yd_X1_whenOf : (yX1_whenOf).cls = RX1 ∧ (yX1_whenOf).cls ≠ "java/lang/invoke/MethodHandle" ∧ (yX1_whenOf).cls ≠ "java/lang/invoke/VarHandle" ∧ (parseMethodDescriptor (yX1_whenOf).desc).map (fun d => d.parameters.length) = some 1 := (by decide +kernel)
set_option maxRecDepth 100000 in
theorem cw_X1_lostAtFirst : Cond.code yX1_lostAtFirst cX1_lostAtFirst 1 (some .int) ∈ z_G := z_G_in (i := 986) rfl rfl
theorem yw_X1_lostAtFirst : Cond.instanceMethod yX1_lostAtFirst ∈ z_G ∧ Cond.selects RX1 yX1_lostAtFirst yX1_lostAtFirst ∈ z_G ∧ Cond.initialized RX1 ∈ z_G ∧ Cond.code yX1_lostAtFirst cX1_lostAtFirst 1 (some .int) ∈ z_G := ⟨z_G_in (i := 984) (by decide +kernel) (by decide +kernel), z_G_in (i := 985) (by decide +kernel) (by decide +kernel), ini_X1, cw_X1_lostAtFirst⟩
theorem yd_X1_lostAtFirst : (yX1_lostAtFirst).cls = RX1 ∧ (yX1_lostAtFirst).cls ≠ "java/lang/invoke/MethodHandle" ∧ (yX1_lostAtFirst).cls ≠ "java/lang/invoke/VarHandle" ∧ (parseMethodDescriptor (yX1_lostAtFirst).desc).map (fun d => d.parameters.length) = some 0 := (by decide +kernel)
set_option maxRecDepth 100000 in
theorem cw_X1_lostBehindFirst : Cond.code yX1_lostBehindFirst cX1_lostBehindFirst 3 (some .int) ∈ z_G := z_G_in (i := 982) rfl rfl
theorem yw_X1_lostBehindFirst : Cond.instanceMethod yX1_lostBehindFirst ∈ z_G ∧ Cond.selects RX1 yX1_lostBehindFirst yX1_lostBehindFirst ∈ z_G ∧ Cond.initialized RX1 ∈ z_G ∧ Cond.code yX1_lostBehindFirst cX1_lostBehindFirst 3 (some .int) ∈ z_G := ⟨z_G_in (i := 980) (by decide +kernel) (by decide +kernel), z_G_in (i := 981) (by decide +kernel) (by decide +kernel), ini_X1, cw_X1_lostBehindFirst⟩
theorem yd_X1_lostBehindFirst : (yX1_lostBehindFirst).cls = RX1 ∧ (yX1_lostBehindFirst).cls ≠ "java/lang/invoke/MethodHandle" ∧ (yX1_lostBehindFirst).cls ≠ "java/lang/invoke/VarHandle" ∧ (parseMethodDescriptor (yX1_lostBehindFirst).desc).map (fun d => d.parameters.length) = some 0 := (by decide +kernel)
set_option maxRecDepth 100000 in
theorem cw_X1_lostOn : Cond.code yX1_lostOn cX1_lostOn 4 (some .int) ∈ z_G := z_G_in (i := 994) rfl rfl
theorem yw_X1_lostOn : Cond.instanceMethod yX1_lostOn ∈ z_G ∧ Cond.selects RX1 yX1_lostOn yX1_lostOn ∈ z_G ∧ Cond.initialized RX1 ∈ z_G ∧ Cond.code yX1_lostOn cX1_lostOn 4 (some .int) ∈ z_G := ⟨z_G_in (i := 992) (by decide +kernel) (by decide +kernel), z_G_in (i := 993) (by decide +kernel) (by decide +kernel), ini_X1, cw_X1_lostOn⟩
theorem yd_X1_lostOn : (yX1_lostOn).cls = RX1 ∧ (yX1_lostOn).cls ≠ "java/lang/invoke/MethodHandle" ∧ (yX1_lostOn).cls ≠ "java/lang/invoke/VarHandle" ∧ (parseMethodDescriptor (yX1_lostOn).desc).map (fun d => d.parameters.length) = some 1 := (by decide +kernel)
set_option maxRecDepth 100000 in
theorem cw_X2_init : Cond.code yX2_init cX2_init 4 none ∈ z_G := z_G_in (i := 415) rfl rfl
theorem yi_X2_init : Cond.instanceMethod yX2_init ∈ z_G := z_G_in (i := 414) (by decide +kernel) (by decide +kernel)
theorem yd_X2_init : (yX2_init).cls ≠ "java/lang/invoke/MethodHandle" ∧ (yX2_init).cls ≠ "java/lang/invoke/VarHandle" ∧ (parseMethodDescriptor (yX2_init).desc).map (fun d => d.parameters.length) = some 3 := (by decide +kernel)
set_option maxRecDepth 100000 in
theorem cw_X2_layInOrder : Cond.code yX2_layInOrder cX2_layInOrder 2 none ∈ z_G := z_G_in (i := 848) rfl rfl
theorem yw_X2_layInOrder : Cond.instanceMethod yX2_layInOrder ∈ z_G ∧ Cond.selects RX2 yX2_layInOrder yX2_layInOrder ∈ z_G ∧ Cond.initialized RX2 ∈ z_G ∧ Cond.code yX2_layInOrder cX2_layInOrder 2 none ∈ z_G := ⟨z_G_in (i := 846) (by decide +kernel) (by decide +kernel), z_G_in (i := 847) (by decide +kernel) (by decide +kernel), ini_X2, cw_X2_layInOrder⟩
theorem yd_X2_layInOrder : (yX2_layInOrder).cls = RX2 ∧ (yX2_layInOrder).cls ≠ "java/lang/invoke/MethodHandle" ∧ (yX2_layInOrder).cls ≠ "java/lang/invoke/VarHandle" ∧ (parseMethodDescriptor (yX2_layInOrder).desc).map (fun d => d.parameters.length) = some 1 := (by decide +kernel)
set_option maxRecDepth 100000 in
theorem cw_X2_laySoonest : Cond.code yX2_laySoonest cX2_laySoonest 6 none ∈ z_G := z_G_in (i := 1079) rfl rfl
theorem yw_X2_laySoonest : Cond.instanceMethod yX2_laySoonest ∈ z_G ∧ Cond.selects RX2 yX2_laySoonest yX2_laySoonest ∈ z_G ∧ Cond.initialized RX2 ∈ z_G ∧ Cond.code yX2_laySoonest cX2_laySoonest 6 none ∈ z_G := ⟨z_G_in (i := 1077) (by decide +kernel) (by decide +kernel), z_G_in (i := 1078) (by decide +kernel) (by decide +kernel), ini_X2, cw_X2_laySoonest⟩
theorem yd_X2_laySoonest : (yX2_laySoonest).cls = RX2 ∧ (yX2_laySoonest).cls ≠ "java/lang/invoke/MethodHandle" ∧ (yX2_laySoonest).cls ≠ "java/lang/invoke/VarHandle" ∧ (parseMethodDescriptor (yX2_laySoonest).desc).map (fun d => d.parameters.length) = some 1 := (by decide +kernel)
set_option maxRecDepth 100000 in
theorem cw_X2_layFixed : Cond.code yX2_layFixed cX2_layFixed 3 none ∈ z_G := z_G_in (i := 852) rfl rfl
theorem yw_X2_layFixed : Cond.instanceMethod yX2_layFixed ∈ z_G ∧ Cond.selects RX2 yX2_layFixed yX2_layFixed ∈ z_G ∧ Cond.initialized RX2 ∈ z_G ∧ Cond.code yX2_layFixed cX2_layFixed 3 none ∈ z_G := ⟨z_G_in (i := 851) (by decide +kernel) (by decide +kernel), z_G_in (i := 29) (by decide +kernel) (by decide +kernel), ini_X2, cw_X2_layFixed⟩
theorem yd_X2_layFixed : (yX2_layFixed).cls = RX2 ∧ (yX2_layFixed).cls ≠ "java/lang/invoke/MethodHandle" ∧ (yX2_layFixed).cls ≠ "java/lang/invoke/VarHandle" ∧ (parseMethodDescriptor (yX2_layFixed).desc).map (fun d => d.parameters.length) = some 1 := (by decide +kernel)
set_option maxRecDepth 100000 in
theorem cw_X2_layRest : Cond.code yX2_layRest cX2_layRest 3 none ∈ z_G := z_G_in (i := 865) rfl rfl
theorem yw_X2_layRest : Cond.instanceMethod yX2_layRest ∈ z_G ∧ Cond.selects RX2 yX2_layRest yX2_layRest ∈ z_G ∧ Cond.initialized RX2 ∈ z_G ∧ Cond.code yX2_layRest cX2_layRest 3 none ∈ z_G := ⟨z_G_in (i := 864) (by decide +kernel) (by decide +kernel), z_G_in (i := 31) (by decide +kernel) (by decide +kernel), ini_X2, cw_X2_layRest⟩
theorem yd_X2_layRest : (yX2_layRest).cls = RX2 ∧ (yX2_layRest).cls ≠ "java/lang/invoke/MethodHandle" ∧ (yX2_layRest).cls ≠ "java/lang/invoke/VarHandle" ∧ (parseMethodDescriptor (yX2_layRest).desc).map (fun d => d.parameters.length) = some 1 := (by decide +kernel)
set_option maxRecDepth 100000 in
theorem cw_X2_lay : Cond.code yX2_lay cX2_lay 4 none ∈ z_G := z_G_in (i := 856) rfl rfl
theorem yw_X2_lay : Cond.instanceMethod yX2_lay ∈ z_G ∧ Cond.selects RX2 yX2_lay yX2_lay ∈ z_G ∧ Cond.initialized RX2 ∈ z_G ∧ Cond.code yX2_lay cX2_lay 4 none ∈ z_G := ⟨z_G_in (i := 855) (by decide +kernel) (by decide +kernel), z_G_in (i := 30) (by decide +kernel) (by decide +kernel), ini_X2, cw_X2_lay⟩
theorem yd_X2_lay : (yX2_lay).cls = RX2 ∧ (yX2_lay).cls ≠ "java/lang/invoke/MethodHandle" ∧ (yX2_lay).cls ≠ "java/lang/invoke/VarHandle" ∧ (parseMethodDescriptor (yX2_lay).desc).map (fun d => d.parameters.length) = some 3 := (by decide +kernel)
set_option maxRecDepth 100000 in
theorem cw_X2_leastFree : Cond.code yX2_leastFree cX2_leastFree 2 (some .int) ∈ z_G := z_G_in (i := 869) rfl rfl
theorem yw_X2_leastFree : Cond.instanceMethod yX2_leastFree ∈ z_G ∧ Cond.selects RX2 yX2_leastFree yX2_leastFree ∈ z_G ∧ Cond.initialized RX2 ∈ z_G ∧ Cond.code yX2_leastFree cX2_leastFree 2 (some .int) ∈ z_G := ⟨z_G_in (i := 868) (by decide +kernel) (by decide +kernel), z_G_in (i := 32) (by decide +kernel) (by decide +kernel), ini_X2, cw_X2_leastFree⟩
theorem yd_X2_leastFree : (yX2_leastFree).cls = RX2 ∧ (yX2_leastFree).cls ≠ "java/lang/invoke/MethodHandle" ∧ (yX2_leastFree).cls ≠ "java/lang/invoke/VarHandle" ∧ (parseMethodDescriptor (yX2_leastFree).desc).map (fun d => d.parameters.length) = some 0 := (by decide +kernel)
set_option maxRecDepth 100000 in
theorem cw_X2_soonest : Cond.code yX2_soonest cX2_soonest 6 (some .int) ∈ z_G := z_G_in (i := 1083) rfl rfl
theorem yw_X2_soonest : Cond.instanceMethod yX2_soonest ∈ z_G ∧ Cond.selects RX2 yX2_soonest yX2_soonest ∈ z_G ∧ Cond.initialized RX2 ∈ z_G ∧ Cond.code yX2_soonest cX2_soonest 6 (some .int) ∈ z_G := ⟨z_G_in (i := 1082) (by decide +kernel) (by decide +kernel), z_G_in (i := 44) (by decide +kernel) (by decide +kernel), ini_X2, cw_X2_soonest⟩
theorem yd_X2_soonest : (yX2_soonest).cls = RX2 ∧ (yX2_soonest).cls ≠ "java/lang/invoke/MethodHandle" ∧ (yX2_soonest).cls ≠ "java/lang/invoke/VarHandle" ∧ (parseMethodDescriptor (yX2_soonest).desc).map (fun d => d.parameters.length) = some 1 := (by decide +kernel)
set_option maxRecDepth 100000 in
theorem cw_X3_init : Cond.code yX3_init cX3_init 1 none ∈ z_G := z_G_in (i := 151) rfl rfl
theorem yi_X3_init : Cond.instanceMethod yX3_init ∈ z_G := z_G_in (i := 150) (by decide +kernel) (by decide +kernel)
theorem yd_X3_init : (yX3_init).cls ≠ "java/lang/invoke/MethodHandle" ∧ (yX3_init).cls ≠ "java/lang/invoke/VarHandle" ∧ (parseMethodDescriptor (yX3_init).desc).map (fun d => d.parameters.length) = some 0 := (by decide +kernel)
set_option maxRecDepth 100000 in
theorem cw_X3_clear : Cond.code yX3_clear cX3_clear 1 none ∈ z_G := z_G_in (i := 557) rfl rfl
theorem yw_X3_clear : Cond.instanceMethod yX3_clear ∈ z_G ∧ Cond.selects RX3 yX3_clear yX3_clear ∈ z_G ∧ Cond.initialized RX3 ∈ z_G ∧ Cond.code yX3_clear cX3_clear 1 none ∈ z_G := ⟨z_G_in (i := 555) (by decide +kernel) (by decide +kernel), z_G_in (i := 556) (by decide +kernel) (by decide +kernel), ini_X3, cw_X3_clear⟩
theorem yd_X3_clear : (yX3_clear).cls = RX3 ∧ (yX3_clear).cls ≠ "java/lang/invoke/MethodHandle" ∧ (yX3_clear).cls ≠ "java/lang/invoke/VarHandle" ∧ (parseMethodDescriptor (yX3_clear).desc).map (fun d => d.parameters.length) = some 0 := (by decide +kernel)
set_option maxRecDepth 100000 in
theorem cw_X3_copyFrom : Cond.code yX3_copyFrom cX3_copyFrom 2 none ∈ z_G := z_G_in (i := 795) rfl rfl
theorem yw_X3_copyFrom : Cond.instanceMethod yX3_copyFrom ∈ z_G ∧ Cond.selects RX3 yX3_copyFrom yX3_copyFrom ∈ z_G ∧ Cond.initialized RX3 ∈ z_G ∧ Cond.code yX3_copyFrom cX3_copyFrom 2 none ∈ z_G := ⟨z_G_in (i := 793) (by decide +kernel) (by decide +kernel), z_G_in (i := 794) (by decide +kernel) (by decide +kernel), ini_X3, cw_X3_copyFrom⟩
theorem yd_X3_copyFrom : (yX3_copyFrom).cls = RX3 ∧ (yX3_copyFrom).cls ≠ "java/lang/invoke/MethodHandle" ∧ (yX3_copyFrom).cls ≠ "java/lang/invoke/VarHandle" ∧ (parseMethodDescriptor (yX3_copyFrom).desc).map (fun d => d.parameters.length) = some 1 := (by decide +kernel)
set_option maxRecDepth 100000 in
theorem cw_X3_addWord : Cond.code yX3_addWord cX3_addWord 3 none ∈ z_G := z_G_in (i := 747) rfl rfl
theorem yw_X3_addWord : Cond.instanceMethod yX3_addWord ∈ z_G ∧ Cond.selects RX3 yX3_addWord yX3_addWord ∈ z_G ∧ Cond.initialized RX3 ∈ z_G ∧ Cond.code yX3_addWord cX3_addWord 3 none ∈ z_G := ⟨z_G_in (i := 745) (by decide +kernel) (by decide +kernel), z_G_in (i := 746) (by decide +kernel) (by decide +kernel), ini_X3, cw_X3_addWord⟩
theorem yd_X3_addWord : (yX3_addWord).cls = RX3 ∧ (yX3_addWord).cls ≠ "java/lang/invoke/MethodHandle" ∧ (yX3_addWord).cls ≠ "java/lang/invoke/VarHandle" ∧ (parseMethodDescriptor (yX3_addWord).desc).map (fun d => d.parameters.length) = some 2 := (by decide +kernel)
set_option maxRecDepth 100000 in
theorem cw_X3_addStep : Cond.code yX3_addStep cX3_addStep 4 none ∈ z_G := z_G_in (i := 768) rfl rfl
theorem yw_X3_addStep : Cond.instanceMethod yX3_addStep ∈ z_G ∧ Cond.selects RX3 yX3_addStep yX3_addStep ∈ z_G ∧ Cond.initialized RX3 ∈ z_G ∧ Cond.code yX3_addStep cX3_addStep 4 none ∈ z_G := ⟨z_G_in (i := 766) (by decide +kernel) (by decide +kernel), z_G_in (i := 767) (by decide +kernel) (by decide +kernel), ini_X3, cw_X3_addStep⟩
theorem yd_X3_addStep : (yX3_addStep).cls = RX3 ∧ (yX3_addStep).cls ≠ "java/lang/invoke/MethodHandle" ∧ (yX3_addStep).cls ≠ "java/lang/invoke/VarHandle" ∧ (parseMethodDescriptor (yX3_addStep).desc).map (fun d => d.parameters.length) = some 3 := (by decide +kernel)
set_option maxRecDepth 100000 in
theorem cw_X3_addItem : Cond.code yX3_addItem cX3_addItem 3 none ∈ z_G := z_G_in (i := 751) rfl rfl
theorem yw_X3_addItem : Cond.instanceMethod yX3_addItem ∈ z_G ∧ Cond.selects RX3 yX3_addItem yX3_addItem ∈ z_G ∧ Cond.initialized RX3 ∈ z_G ∧ Cond.code yX3_addItem cX3_addItem 3 none ∈ z_G := ⟨z_G_in (i := 750) (by decide +kernel) (by decide +kernel), z_G_in (i := 17) (by decide +kernel) (by decide +kernel), ini_X3, cw_X3_addItem⟩
theorem yd_X3_addItem : (yX3_addItem).cls = RX3 ∧ (yX3_addItem).cls ≠ "java/lang/invoke/MethodHandle" ∧ (yX3_addItem).cls ≠ "java/lang/invoke/VarHandle" ∧ (parseMethodDescriptor (yX3_addItem).desc).map (fun d => d.parameters.length) = some 2 := (by decide +kernel)
set_option maxRecDepth 100000 in
theorem cw_X3_isItem : Cond.code yX3_isItem cX3_isItem 2 (some .boolean) ∈ z_G := z_G_in (i := 787) rfl rfl
theorem yw_X3_isItem : Cond.instanceMethod yX3_isItem ∈ z_G ∧ Cond.selects RX3 yX3_isItem yX3_isItem ∈ z_G ∧ Cond.initialized RX3 ∈ z_G ∧ Cond.code yX3_isItem cX3_isItem 2 (some .boolean) ∈ z_G := ⟨z_G_in (i := 785) (by decide +kernel) (by decide +kernel), z_G_in (i := 786) (by decide +kernel) (by decide +kernel), ini_X3, cw_X3_isItem⟩
theorem yd_X3_isItem : (yX3_isItem).cls = RX3 ∧ (yX3_isItem).cls ≠ "java/lang/invoke/MethodHandle" ∧ (yX3_isItem).cls ≠ "java/lang/invoke/VarHandle" ∧ (parseMethodDescriptor (yX3_isItem).desc).map (fun d => d.parameters.length) = some 1 := (by decide +kernel)
set_option maxRecDepth 100000 in
theorem cw_X3_isStep : Cond.code yX3_isStep cX3_isStep 2 (some .boolean) ∈ z_G := z_G_in (i := 783) rfl rfl
theorem yw_X3_isStep : Cond.instanceMethod yX3_isStep ∈ z_G ∧ Cond.selects RX3 yX3_isStep yX3_isStep ∈ z_G ∧ Cond.initialized RX3 ∈ z_G ∧ Cond.code yX3_isStep cX3_isStep 2 (some .boolean) ∈ z_G := ⟨z_G_in (i := 781) (by decide +kernel) (by decide +kernel), z_G_in (i := 782) (by decide +kernel) (by decide +kernel), ini_X3, cw_X3_isStep⟩
theorem yd_X3_isStep : (yX3_isStep).cls = RX3 ∧ (yX3_isStep).cls ≠ "java/lang/invoke/MethodHandle" ∧ (yX3_isStep).cls ≠ "java/lang/invoke/VarHandle" ∧ (parseMethodDescriptor (yX3_isStep).desc).map (fun d => d.parameters.length) = some 1 := (by decide +kernel)
set_option maxRecDepth 100000 in
theorem cw_X3_isWord : Cond.code yX3_isWord cX3_isWord 2 (some .boolean) ∈ z_G := z_G_in (i := 791) rfl rfl
theorem yw_X3_isWord : Cond.instanceMethod yX3_isWord ∈ z_G ∧ Cond.selects RX3 yX3_isWord yX3_isWord ∈ z_G ∧ Cond.initialized RX3 ∈ z_G ∧ Cond.code yX3_isWord cX3_isWord 2 (some .boolean) ∈ z_G := ⟨z_G_in (i := 789) (by decide +kernel) (by decide +kernel), z_G_in (i := 790) (by decide +kernel) (by decide +kernel), ini_X3, cw_X3_isWord⟩
theorem yd_X3_isWord : (yX3_isWord).cls = RX3 ∧ (yX3_isWord).cls ≠ "java/lang/invoke/MethodHandle" ∧ (yX3_isWord).cls ≠ "java/lang/invoke/VarHandle" ∧ (parseMethodDescriptor (yX3_isWord).desc).map (fun d => d.parameters.length) = some 1 := (by decide +kernel)
set_option maxRecDepth 100000 in
theorem cw_X3_isFixed : Cond.code yX3_isFixed cX3_isFixed 2 (some .boolean) ∈ z_G := z_G_in (i := 897) rfl rfl
theorem yw_X3_isFixed : Cond.instanceMethod yX3_isFixed ∈ z_G ∧ Cond.selects RX3 yX3_isFixed yX3_isFixed ∈ z_G ∧ Cond.initialized RX3 ∈ z_G ∧ Cond.code yX3_isFixed cX3_isFixed 2 (some .boolean) ∈ z_G := ⟨z_G_in (i := 895) (by decide +kernel) (by decide +kernel), z_G_in (i := 896) (by decide +kernel) (by decide +kernel), ini_X3, cw_X3_isFixed⟩
theorem yd_X3_isFixed : (yX3_isFixed).cls = RX3 ∧ (yX3_isFixed).cls ≠ "java/lang/invoke/MethodHandle" ∧ (yX3_isFixed).cls ≠ "java/lang/invoke/VarHandle" ∧ (parseMethodDescriptor (yX3_isFixed).desc).map (fun d => d.parameters.length) = some 1 := (by decide +kernel)
set_option maxRecDepth 100000 in
theorem cw_X3_isAddress : Cond.code yX3_isAddress cX3_isAddress 2 (some .boolean) ∈ z_G := z_G_in (i := 860) rfl rfl
theorem yw_X3_isAddress : Cond.instanceMethod yX3_isAddress ∈ z_G ∧ Cond.selects RX3 yX3_isAddress yX3_isAddress ∈ z_G ∧ Cond.initialized RX3 ∈ z_G ∧ Cond.code yX3_isAddress cX3_isAddress 2 (some .boolean) ∈ z_G := ⟨z_G_in (i := 858) (by decide +kernel) (by decide +kernel), z_G_in (i := 859) (by decide +kernel) (by decide +kernel), ini_X3, cw_X3_isAddress⟩
theorem yd_X3_isAddress : (yX3_isAddress).cls = RX3 ∧ (yX3_isAddress).cls ≠ "java/lang/invoke/MethodHandle" ∧ (yX3_isAddress).cls ≠ "java/lang/invoke/VarHandle" ∧ (parseMethodDescriptor (yX3_isAddress).desc).map (fun d => d.parameters.length) = some 1 := (by decide +kernel)
set_option maxRecDepth 100000 in
theorem cw_X3_isToldAddress : Cond.code yX3_isToldAddress cX3_isToldAddress 3 (some .boolean) ∈ z_G := z_G_in (i := 743) rfl rfl
theorem yw_X3_isToldAddress : Cond.instanceMethod yX3_isToldAddress ∈ z_G ∧ Cond.selects RX3 yX3_isToldAddress yX3_isToldAddress ∈ z_G ∧ Cond.initialized RX3 ∈ z_G ∧ Cond.code yX3_isToldAddress cX3_isToldAddress 3 (some .boolean) ∈ z_G := ⟨z_G_in (i := 741) (by decide +kernel) (by decide +kernel), z_G_in (i := 742) (by decide +kernel) (by decide +kernel), ini_X3, cw_X3_isToldAddress⟩
theorem yd_X3_isToldAddress : (yX3_isToldAddress).cls = RX3 ∧ (yX3_isToldAddress).cls ≠ "java/lang/invoke/MethodHandle" ∧ (yX3_isToldAddress).cls ≠ "java/lang/invoke/VarHandle" ∧ (parseMethodDescriptor (yX3_isToldAddress).desc).map (fun d => d.parameters.length) = some 1 := (by decide +kernel)
set_option maxRecDepth 100000 in
theorem cw_X3_addresses : Cond.code yX3_addresses cX3_addresses 1 (some .int) ∈ z_G := z_G_in (i := 697) rfl rfl
theorem yw_X3_addresses : Cond.instanceMethod yX3_addresses ∈ z_G ∧ Cond.selects RX3 yX3_addresses yX3_addresses ∈ z_G ∧ Cond.initialized RX3 ∈ z_G ∧ Cond.code yX3_addresses cX3_addresses 1 (some .int) ∈ z_G := ⟨z_G_in (i := 695) (by decide +kernel) (by decide +kernel), z_G_in (i := 696) (by decide +kernel) (by decide +kernel), ini_X3, cw_X3_addresses⟩
theorem yd_X3_addresses : (yX3_addresses).cls = RX3 ∧ (yX3_addresses).cls ≠ "java/lang/invoke/MethodHandle" ∧ (yX3_addresses).cls ≠ "java/lang/invoke/VarHandle" ∧ (parseMethodDescriptor (yX3_addresses).desc).map (fun d => d.parameters.length) = some 0 := (by decide +kernel)
set_option maxRecDepth 100000 in
theorem cw_X3_loose : Cond.code yX3_loose cX3_loose 3 (some .int) ∈ z_G := z_G_in (i := 887) rfl rfl
theorem yw_X3_loose : Cond.instanceMethod yX3_loose ∈ z_G ∧ Cond.selects RX3 yX3_loose yX3_loose ∈ z_G ∧ Cond.initialized RX3 ∈ z_G ∧ Cond.code yX3_loose cX3_loose 3 (some .int) ∈ z_G := ⟨z_G_in (i := 885) (by decide +kernel) (by decide +kernel), z_G_in (i := 886) (by decide +kernel) (by decide +kernel), ini_X3, cw_X3_loose⟩
theorem yd_X3_loose : (yX3_loose).cls = RX3 ∧ (yX3_loose).cls ≠ "java/lang/invoke/MethodHandle" ∧ (yX3_loose).cls ≠ "java/lang/invoke/VarHandle" ∧ (parseMethodDescriptor (yX3_loose).desc).map (fun d => d.parameters.length) = some 0 := (by decide +kernel)
set_option maxRecDepth 100000 in
theorem cw_X3_wordFurther : Cond.code yX3_wordFurther cX3_wordFurther 4 (some .int) ∈ z_G := z_G_in (i := 831) rfl rfl
theorem yw_X3_wordFurther : Cond.instanceMethod yX3_wordFurther ∈ z_G ∧ Cond.selects RX3 yX3_wordFurther yX3_wordFurther ∈ z_G ∧ Cond.initialized RX3 ∈ z_G ∧ Cond.code yX3_wordFurther cX3_wordFurther 4 (some .int) ∈ z_G := ⟨z_G_in (i := 829) (by decide +kernel) (by decide +kernel), z_G_in (i := 830) (by decide +kernel) (by decide +kernel), ini_X3, cw_X3_wordFurther⟩
theorem yd_X3_wordFurther : (yX3_wordFurther).cls = RX3 ∧ (yX3_wordFurther).cls ≠ "java/lang/invoke/MethodHandle" ∧ (yX3_wordFurther).cls ≠ "java/lang/invoke/VarHandle" ∧ (parseMethodDescriptor (yX3_wordFurther).desc).map (fun d => d.parameters.length) = some 2 := (by decide +kernel)
set_option maxRecDepth 100000 in
theorem cw_X4_init : Cond.code yX4_init cX4_init 2 none ∈ z_G := z_G_in (i := 353) rfl rfl
theorem yi_X4_init : Cond.instanceMethod yX4_init ∈ z_G := z_G_in (i := 352) (by decide +kernel) (by decide +kernel)
theorem yd_X4_init : (yX4_init).cls ≠ "java/lang/invoke/MethodHandle" ∧ (yX4_init).cls ≠ "java/lang/invoke/VarHandle" ∧ (parseMethodDescriptor (yX4_init).desc).map (fun d => d.parameters.length) = some 1 := (by decide +kernel)
set_option maxRecDepth 100000 in
theorem cw_X4_readText : Cond.code yX4_readText cX4_readText 3 none ∈ z_G := z_G_in (i := 553) rfl rfl
theorem yw_X4_readText : Cond.instanceMethod yX4_readText ∈ z_G ∧ Cond.selects RX4 yX4_readText yX4_readText ∈ z_G ∧ Cond.initialized RX4 ∈ z_G ∧ Cond.code yX4_readText cX4_readText 3 none ∈ z_G := ⟨z_G_in (i := 551) (by decide +kernel) (by decide +kernel), z_G_in (i := 552) (by decide +kernel) (by decide +kernel), ini_X4, cw_X4_readText⟩
theorem yd_X4_readText : (yX4_readText).cls = RX4 ∧ (yX4_readText).cls ≠ "java/lang/invoke/MethodHandle" ∧ (yX4_readText).cls ≠ "java/lang/invoke/VarHandle" ∧ (parseMethodDescriptor (yX4_readText).desc).map (fun d => d.parameters.length) = some 1 := (by decide +kernel)
set_option maxRecDepth 100000 in
theorem cw_X4_goesOn : Cond.code yX4_goesOn cX4_goesOn 1 (some .boolean) ∈ z_G := z_G_in (i := 598) rfl rfl
theorem yw_X4_goesOn : Cond.instanceMethod yX4_goesOn ∈ z_G ∧ Cond.selects RX4 yX4_goesOn yX4_goesOn ∈ z_G ∧ Cond.initialized RX4 ∈ z_G ∧ Cond.code yX4_goesOn cX4_goesOn 1 (some .boolean) ∈ z_G := ⟨z_G_in (i := 597) (by decide +kernel) (by decide +kernel), z_G_in (i := 3) (by decide +kernel) (by decide +kernel), ini_X4, cw_X4_goesOn⟩
theorem yd_X4_goesOn : (yX4_goesOn).cls = RX4 ∧ (yX4_goesOn).cls ≠ "java/lang/invoke/MethodHandle" ∧ (yX4_goesOn).cls ≠ "java/lang/invoke/VarHandle" ∧ (parseMethodDescriptor (yX4_goesOn).desc).map (fun d => d.parameters.length) = some 0 := (by decide +kernel)
set_option maxRecDepth 100000 in
theorem cw_X4_readDrum : Cond.code yX4_readDrum cX4_readDrum 2 none ∈ z_G := z_G_in (i := 602) rfl rfl
theorem yw_X4_readDrum : Cond.instanceMethod yX4_readDrum ∈ z_G ∧ Cond.selects RX4 yX4_readDrum yX4_readDrum ∈ z_G ∧ Cond.initialized RX4 ∈ z_G ∧ Cond.code yX4_readDrum cX4_readDrum 2 none ∈ z_G := ⟨z_G_in (i := 601) (by decide +kernel) (by decide +kernel), z_G_in (i := 4) (by decide +kernel) (by decide +kernel), ini_X4, cw_X4_readDrum⟩
theorem yd_X4_readDrum : (yX4_readDrum).cls = RX4 ∧ (yX4_readDrum).cls ≠ "java/lang/invoke/MethodHandle" ∧ (yX4_readDrum).cls ≠ "java/lang/invoke/VarHandle" ∧ (parseMethodDescriptor (yX4_readDrum).desc).map (fun d => d.parameters.length) = some 1 := (by decide +kernel)
set_option maxRecDepth 100000 in
theorem cw_X4_readWord : Cond.code yX4_readWord cX4_readWord 5 none ∈ z_G := z_G_in (i := 693) rfl rfl
theorem yw_X4_readWord : Cond.instanceMethod yX4_readWord ∈ z_G ∧ Cond.selects RX4 yX4_readWord yX4_readWord ∈ z_G ∧ Cond.initialized RX4 ∈ z_G ∧ Cond.code yX4_readWord cX4_readWord 5 none ∈ z_G := ⟨z_G_in (i := 692) (by decide +kernel) (by decide +kernel), z_G_in (i := 11) (by decide +kernel) (by decide +kernel), ini_X4, cw_X4_readWord⟩
theorem yd_X4_readWord : (yX4_readWord).cls = RX4 ∧ (yX4_readWord).cls ≠ "java/lang/invoke/MethodHandle" ∧ (yX4_readWord).cls ≠ "java/lang/invoke/VarHandle" ∧ (parseMethodDescriptor (yX4_readWord).desc).map (fun d => d.parameters.length) = some 1 := (by decide +kernel)
set_option maxRecDepth 100000 in
theorem cw_X4_readStep : Cond.code yX4_readStep cX4_readStep 5 none ∈ z_G := z_G_in (i := 755) rfl rfl
theorem yw_X4_readStep : Cond.instanceMethod yX4_readStep ∈ z_G ∧ Cond.selects RX4 yX4_readStep yX4_readStep ∈ z_G ∧ Cond.initialized RX4 ∈ z_G ∧ Cond.code yX4_readStep cX4_readStep 5 none ∈ z_G := ⟨z_G_in (i := 754) (by decide +kernel) (by decide +kernel), z_G_in (i := 18) (by decide +kernel) (by decide +kernel), ini_X4, cw_X4_readStep⟩
theorem yd_X4_readStep : (yX4_readStep).cls = RX4 ∧ (yX4_readStep).cls ≠ "java/lang/invoke/MethodHandle" ∧ (yX4_readStep).cls ≠ "java/lang/invoke/VarHandle" ∧ (parseMethodDescriptor (yX4_readStep).desc).map (fun d => d.parameters.length) = some 1 := (by decide +kernel)
set_option maxRecDepth 100000 in
theorem cw_X4_linkStep : Cond.code yX4_linkStep cX4_linkStep 6 none ∈ z_G := z_G_in (i := 776) rfl rfl
theorem yw_X4_linkStep : Cond.instanceMethod yX4_linkStep ∈ z_G ∧ Cond.selects RX4 yX4_linkStep yX4_linkStep ∈ z_G ∧ Cond.initialized RX4 ∈ z_G ∧ Cond.code yX4_linkStep cX4_linkStep 6 none ∈ z_G := ⟨z_G_in (i := 775) (by decide +kernel) (by decide +kernel), z_G_in (i := 22) (by decide +kernel) (by decide +kernel), ini_X4, cw_X4_linkStep⟩
theorem yd_X4_linkStep : (yX4_linkStep).cls = RX4 ∧ (yX4_linkStep).cls ≠ "java/lang/invoke/MethodHandle" ∧ (yX4_linkStep).cls ≠ "java/lang/invoke/VarHandle" ∧ (parseMethodDescriptor (yX4_linkStep).desc).map (fun d => d.parameters.length) = some 2 := (by decide +kernel)
set_option maxRecDepth 100000 in
theorem cw_X4_mayBeFirst : Cond.code yX4_mayBeFirst cX4_mayBeFirst 3 (some .boolean) ∈ z_G := z_G_in (i := 779) rfl rfl
theorem yw_X4_mayBeFirst : Cond.static yX4_mayBeFirst ∈ z_G ∧ Cond.initialized (yX4_mayBeFirst).cls ∈ z_G ∧ Cond.code yX4_mayBeFirst cX4_mayBeFirst 3 (some .boolean) ∈ z_G := ⟨z_G_in (i := 778) (by decide +kernel) (by decide +kernel), ini_X4, cw_X4_mayBeFirst⟩
theorem yd_X4_mayBeFirst : (yX4_mayBeFirst).cls ≠ "java/lang/invoke/MethodHandle" ∧ (yX4_mayBeFirst).cls ≠ "java/lang/invoke/VarHandle" ∧ (parseMethodDescriptor (yX4_mayBeFirst).desc).map (fun d => d.parameters.length) = some 3 := (by decide +kernel)
set_option maxRecDepth 100000 in
theorem cw_X4_itemNamed : Cond.code yX4_itemNamed cX4_itemNamed 4 (some .int) ∈ z_G := z_G_in (i := 730) rfl rfl
theorem yw_X4_itemNamed : Cond.instanceMethod yX4_itemNamed ∈ z_G ∧ Cond.selects RX4 yX4_itemNamed yX4_itemNamed ∈ z_G ∧ Cond.initialized RX4 ∈ z_G ∧ Cond.code yX4_itemNamed cX4_itemNamed 4 (some .int) ∈ z_G := ⟨z_G_in (i := 729) (by decide +kernel) (by decide +kernel), z_G_in (i := 14) (by decide +kernel) (by decide +kernel), ini_X4, cw_X4_itemNamed⟩
theorem yd_X4_itemNamed : (yX4_itemNamed).cls = RX4 ∧ (yX4_itemNamed).cls ≠ "java/lang/invoke/MethodHandle" ∧ (yX4_itemNamed).cls ≠ "java/lang/invoke/VarHandle" ∧ (parseMethodDescriptor (yX4_itemNamed).desc).map (fun d => d.parameters.length) = some 2 := (by decide +kernel)
set_option maxRecDepth 100000 in
theorem cw_X4_fail : Cond.code yX4_fail cX4_fail 2 none ∈ z_G := z_G_in (i := 663) rfl rfl
theorem yw_X4_fail : Cond.instanceMethod yX4_fail ∈ z_G ∧ Cond.selects RX4 yX4_fail yX4_fail ∈ z_G ∧ Cond.initialized RX4 ∈ z_G ∧ Cond.code yX4_fail cX4_fail 2 none ∈ z_G := ⟨z_G_in (i := 662) (by decide +kernel) (by decide +kernel), z_G_in (i := 6) (by decide +kernel) (by decide +kernel), ini_X4, cw_X4_fail⟩
theorem yd_X4_fail : (yX4_fail).cls = RX4 ∧ (yX4_fail).cls ≠ "java/lang/invoke/MethodHandle" ∧ (yX4_fail).cls ≠ "java/lang/invoke/VarHandle" ∧ (parseMethodDescriptor (yX4_fail).desc).map (fun d => d.parameters.length) = some 1 := (by decide +kernel)
set_option maxRecDepth 100000 in
theorem cw_X4_failAt : Cond.code yX4_failAt cX4_failAt 3 none ∈ z_G := z_G_in (i := 667) rfl rfl
theorem yw_X4_failAt : Cond.instanceMethod yX4_failAt ∈ z_G ∧ Cond.selects RX4 yX4_failAt yX4_failAt ∈ z_G ∧ Cond.initialized RX4 ∈ z_G ∧ Cond.code yX4_failAt cX4_failAt 3 none ∈ z_G := ⟨z_G_in (i := 666) (by decide +kernel) (by decide +kernel), z_G_in (i := 7) (by decide +kernel) (by decide +kernel), ini_X4, cw_X4_failAt⟩
theorem yd_X4_failAt : (yX4_failAt).cls = RX4 ∧ (yX4_failAt).cls ≠ "java/lang/invoke/MethodHandle" ∧ (yX4_failAt).cls ≠ "java/lang/invoke/VarHandle" ∧ (parseMethodDescriptor (yX4_failAt).desc).map (fun d => d.parameters.length) = some 2 := (by decide +kernel)
set_option maxRecDepth 100000 in
theorem cw_X4_takeSemicolon : Cond.code yX4_takeSemicolon cX4_takeSemicolon 1 none ∈ z_G := z_G_in (i := 772) rfl rfl
theorem yw_X4_takeSemicolon : Cond.instanceMethod yX4_takeSemicolon ∈ z_G ∧ Cond.selects RX4 yX4_takeSemicolon yX4_takeSemicolon ∈ z_G ∧ Cond.initialized RX4 ∈ z_G ∧ Cond.code yX4_takeSemicolon cX4_takeSemicolon 1 none ∈ z_G := ⟨z_G_in (i := 771) (by decide +kernel) (by decide +kernel), z_G_in (i := 21) (by decide +kernel) (by decide +kernel), ini_X4, cw_X4_takeSemicolon⟩
theorem yd_X4_takeSemicolon : (yX4_takeSemicolon).cls = RX4 ∧ (yX4_takeSemicolon).cls ≠ "java/lang/invoke/MethodHandle" ∧ (yX4_takeSemicolon).cls ≠ "java/lang/invoke/VarHandle" ∧ (parseMethodDescriptor (yX4_takeSemicolon).desc).map (fun d => d.parameters.length) = some 0 := (by decide +kernel)
set_option maxRecDepth 100000 in
theorem cw_X4_takeWord : Cond.code yX4_takeWord cX4_takeWord 2 none ∈ z_G := z_G_in (i := 607) rfl rfl
theorem yw_X4_takeWord : Cond.instanceMethod yX4_takeWord ∈ z_G ∧ Cond.selects RX4 yX4_takeWord yX4_takeWord ∈ z_G ∧ Cond.initialized RX4 ∈ z_G ∧ Cond.code yX4_takeWord cX4_takeWord 2 none ∈ z_G := ⟨z_G_in (i := 606) (by decide +kernel) (by decide +kernel), z_G_in (i := 5) (by decide +kernel) (by decide +kernel), ini_X4, cw_X4_takeWord⟩
theorem yd_X4_takeWord : (yX4_takeWord).cls = RX4 ∧ (yX4_takeWord).cls ≠ "java/lang/invoke/MethodHandle" ∧ (yX4_takeWord).cls ≠ "java/lang/invoke/VarHandle" ∧ (parseMethodDescriptor (yX4_takeWord).desc).map (fun d => d.parameters.length) = some 1 := (by decide +kernel)
set_option maxRecDepth 100000 in
theorem cw_X4_takeItemWord : Cond.code yX4_takeItemWord cX4_takeItemWord 3 none ∈ z_G := z_G_in (i := 701) rfl rfl
theorem yw_X4_takeItemWord : Cond.instanceMethod yX4_takeItemWord ∈ z_G ∧ Cond.selects RX4 yX4_takeItemWord yX4_takeItemWord ∈ z_G ∧ Cond.initialized RX4 ∈ z_G ∧ Cond.code yX4_takeItemWord cX4_takeItemWord 3 none ∈ z_G := ⟨z_G_in (i := 700) (by decide +kernel) (by decide +kernel), z_G_in (i := 12) (by decide +kernel) (by decide +kernel), ini_X4, cw_X4_takeItemWord⟩
theorem yd_X4_takeItemWord : (yX4_takeItemWord).cls = RX4 ∧ (yX4_takeItemWord).cls ≠ "java/lang/invoke/MethodHandle" ∧ (yX4_takeItemWord).cls ≠ "java/lang/invoke/VarHandle" ∧ (parseMethodDescriptor (yX4_takeItemWord).desc).map (fun d => d.parameters.length) = some 2 := (by decide +kernel)
set_option maxRecDepth 100000 in
theorem cw_X4_takeItemName : Cond.code yX4_takeItemName cX4_takeItemName 4 none ∈ z_G := z_G_in (i := 705) rfl rfl
theorem yw_X4_takeItemName : Cond.instanceMethod yX4_takeItemName ∈ z_G ∧ Cond.selects RX4 yX4_takeItemName yX4_takeItemName ∈ z_G ∧ Cond.initialized RX4 ∈ z_G ∧ Cond.code yX4_takeItemName cX4_takeItemName 4 none ∈ z_G := ⟨z_G_in (i := 704) (by decide +kernel) (by decide +kernel), z_G_in (i := 13) (by decide +kernel) (by decide +kernel), ini_X4, cw_X4_takeItemName⟩
theorem yd_X4_takeItemName : (yX4_takeItemName).cls = RX4 ∧ (yX4_takeItemName).cls ≠ "java/lang/invoke/MethodHandle" ∧ (yX4_takeItemName).cls ≠ "java/lang/invoke/VarHandle" ∧ (parseMethodDescriptor (yX4_takeItemName).desc).map (fun d => d.parameters.length) = some 1 := (by decide +kernel)
set_option maxRecDepth 100000 in
theorem cw_X4_takeMinus : Cond.code yX4_takeMinus cX4_takeMinus 1 (some .boolean) ∈ z_G := z_G_in (i := 734) rfl rfl
theorem yw_X4_takeMinus : Cond.instanceMethod yX4_takeMinus ∈ z_G ∧ Cond.selects RX4 yX4_takeMinus yX4_takeMinus ∈ z_G ∧ Cond.initialized RX4 ∈ z_G ∧ Cond.code yX4_takeMinus cX4_takeMinus 1 (some .boolean) ∈ z_G := ⟨z_G_in (i := 733) (by decide +kernel) (by decide +kernel), z_G_in (i := 15) (by decide +kernel) (by decide +kernel), ini_X4, cw_X4_takeMinus⟩
theorem yd_X4_takeMinus : (yX4_takeMinus).cls = RX4 ∧ (yX4_takeMinus).cls ≠ "java/lang/invoke/MethodHandle" ∧ (yX4_takeMinus).cls ≠ "java/lang/invoke/VarHandle" ∧ (parseMethodDescriptor (yX4_takeMinus).desc).map (fun d => d.parameters.length) = some 0 := (by decide +kernel)
set_option maxRecDepth 100000 in
theorem cw_X4_takeMeasure : Cond.code yX4_takeMeasure cX4_takeMeasure 4 (some .int) ∈ z_G := z_G_in (i := 673) rfl rfl
theorem yw_X4_takeMeasure : Cond.instanceMethod yX4_takeMeasure ∈ z_G ∧ Cond.selects RX4 yX4_takeMeasure yX4_takeMeasure ∈ z_G ∧ Cond.initialized RX4 ∈ z_G ∧ Cond.code yX4_takeMeasure cX4_takeMeasure 4 (some .int) ∈ z_G := ⟨z_G_in (i := 672) (by decide +kernel) (by decide +kernel), z_G_in (i := 8) (by decide +kernel) (by decide +kernel), ini_X4, cw_X4_takeMeasure⟩
theorem yd_X4_takeMeasure : (yX4_takeMeasure).cls = RX4 ∧ (yX4_takeMeasure).cls ≠ "java/lang/invoke/MethodHandle" ∧ (yX4_takeMeasure).cls ≠ "java/lang/invoke/VarHandle" ∧ (parseMethodDescriptor (yX4_takeMeasure).desc).map (fun d => d.parameters.length) = some 3 := (by decide +kernel)
set_option maxRecDepth 100000 in
theorem cw_X4_takeNumber : Cond.code yX4_takeNumber cX4_takeNumber 4 (some .int) ∈ z_G := z_G_in (i := 677) rfl rfl
theorem yw_X4_takeNumber : Cond.instanceMethod yX4_takeNumber ∈ z_G ∧ Cond.selects RX4 yX4_takeNumber yX4_takeNumber ∈ z_G ∧ Cond.initialized RX4 ∈ z_G ∧ Cond.code yX4_takeNumber cX4_takeNumber 4 (some .int) ∈ z_G := ⟨z_G_in (i := 676) (by decide +kernel) (by decide +kernel), z_G_in (i := 9) (by decide +kernel) (by decide +kernel), ini_X4, cw_X4_takeNumber⟩
theorem yd_X4_takeNumber : (yX4_takeNumber).cls = RX4 ∧ (yX4_takeNumber).cls ≠ "java/lang/invoke/MethodHandle" ∧ (yX4_takeNumber).cls ≠ "java/lang/invoke/VarHandle" ∧ (parseMethodDescriptor (yX4_takeNumber).desc).map (fun d => d.parameters.length) = some 2 := (by decide +kernel)
set_option maxRecDepth 100000 in
theorem cw_X4_takeQuick : Cond.code yX4_takeQuick cX4_takeQuick 2 (some .int) ∈ z_G := z_G_in (i := 683) rfl rfl
theorem yw_X4_takeQuick : Cond.instanceMethod yX4_takeQuick ∈ z_G ∧ Cond.selects RX4 yX4_takeQuick yX4_takeQuick ∈ z_G ∧ Cond.initialized RX4 ∈ z_G ∧ Cond.code yX4_takeQuick cX4_takeQuick 2 (some .int) ∈ z_G := ⟨z_G_in (i := 682) (by decide +kernel) (by decide +kernel), z_G_in (i := 10) (by decide +kernel) (by decide +kernel), ini_X4, cw_X4_takeQuick⟩
theorem yd_X4_takeQuick : (yX4_takeQuick).cls = RX4 ∧ (yX4_takeQuick).cls ≠ "java/lang/invoke/MethodHandle" ∧ (yX4_takeQuick).cls ≠ "java/lang/invoke/VarHandle" ∧ (parseMethodDescriptor (yX4_takeQuick).desc).map (fun d => d.parameters.length) = some 1 := (by decide +kernel)
set_option maxRecDepth 100000 in
theorem cw_X4_takeOperation : Cond.code yX4_takeOperation cX4_takeOperation 2 (some .int) ∈ z_G := z_G_in (i := 760) rfl rfl
theorem yw_X4_takeOperation : Cond.instanceMethod yX4_takeOperation ∈ z_G ∧ Cond.selects RX4 yX4_takeOperation yX4_takeOperation ∈ z_G ∧ Cond.initialized RX4 ∈ z_G ∧ Cond.code yX4_takeOperation cX4_takeOperation 2 (some .int) ∈ z_G := ⟨z_G_in (i := 759) (by decide +kernel) (by decide +kernel), z_G_in (i := 19) (by decide +kernel) (by decide +kernel), ini_X4, cw_X4_takeOperation⟩
theorem yd_X4_takeOperation : (yX4_takeOperation).cls = RX4 ∧ (yX4_takeOperation).cls ≠ "java/lang/invoke/MethodHandle" ∧ (yX4_takeOperation).cls ≠ "java/lang/invoke/VarHandle" ∧ (parseMethodDescriptor (yX4_takeOperation).desc).map (fun d => d.parameters.length) = some 0 := (by decide +kernel)
set_option maxRecDepth 100000 in
theorem cw_X4_takeReference : Cond.code yX4_takeReference cX4_takeReference 4 none ∈ z_G := z_G_in (i := 764) rfl rfl
theorem yw_X4_takeReference : Cond.instanceMethod yX4_takeReference ∈ z_G ∧ Cond.selects RX4 yX4_takeReference yX4_takeReference ∈ z_G ∧ Cond.initialized RX4 ∈ z_G ∧ Cond.code yX4_takeReference cX4_takeReference 4 none ∈ z_G := ⟨z_G_in (i := 763) (by decide +kernel) (by decide +kernel), z_G_in (i := 20) (by decide +kernel) (by decide +kernel), ini_X4, cw_X4_takeReference⟩
theorem yd_X4_takeReference : (yX4_takeReference).cls = RX4 ∧ (yX4_takeReference).cls ≠ "java/lang/invoke/MethodHandle" ∧ (yX4_takeReference).cls ≠ "java/lang/invoke/VarHandle" ∧ (parseMethodDescriptor (yX4_takeReference).desc).map (fun d => d.parameters.length) = some 3 := (by decide +kernel)
set_option maxRecDepth 100000 in
theorem cw_X4_takeAddress : Cond.code yX4_takeAddress cX4_takeAddress 2 (some .int) ∈ z_G := z_G_in (i := 738) rfl rfl
theorem yw_X4_takeAddress : Cond.instanceMethod yX4_takeAddress ∈ z_G ∧ Cond.selects RX4 yX4_takeAddress yX4_takeAddress ∈ z_G ∧ Cond.initialized RX4 ∈ z_G ∧ Cond.code yX4_takeAddress cX4_takeAddress 2 (some .int) ∈ z_G := ⟨z_G_in (i := 737) (by decide +kernel) (by decide +kernel), z_G_in (i := 16) (by decide +kernel) (by decide +kernel), ini_X4, cw_X4_takeAddress⟩
theorem yd_X4_takeAddress : (yX4_takeAddress).cls = RX4 ∧ (yX4_takeAddress).cls ≠ "java/lang/invoke/MethodHandle" ∧ (yX4_takeAddress).cls ≠ "java/lang/invoke/VarHandle" ∧ (parseMethodDescriptor (yX4_takeAddress).desc).map (fun d => d.parameters.length) = some 1 := (by decide +kernel)
set_option maxRecDepth 100000 in
theorem cw_X5_init : Cond.code yX5_init cX5_init 3 none ∈ z_G := z_G_in (i := 435) rfl rfl
theorem yi_X5_init : Cond.instanceMethod yX5_init ∈ z_G := z_G_in (i := 434) (by decide +kernel) (by decide +kernel)
theorem yd_X5_init : (yX5_init).cls ≠ "java/lang/invoke/MethodHandle" ∧ (yX5_init).cls ≠ "java/lang/invoke/VarHandle" ∧ (parseMethodDescriptor (yX5_init).desc).map (fun d => d.parameters.length) = some 2 := (by decide +kernel)
set_option maxRecDepth 100000 in
theorem cw_X5_forget : Cond.code yX5_forget cX5_forget 1 none ∈ z_G := z_G_in (i := 874) rfl rfl
theorem yw_X5_forget : Cond.instanceMethod yX5_forget ∈ z_G ∧ Cond.selects RX5 yX5_forget yX5_forget ∈ z_G ∧ Cond.initialized RX5 ∈ z_G ∧ Cond.code yX5_forget cX5_forget 1 none ∈ z_G := ⟨z_G_in (i := 872) (by decide +kernel) (by decide +kernel), z_G_in (i := 873) (by decide +kernel) (by decide +kernel), ini_X5, cw_X5_forget⟩
theorem yd_X5_forget : (yX5_forget).cls = RX5 ∧ (yX5_forget).cls ≠ "java/lang/invoke/MethodHandle" ∧ (yX5_forget).cls ≠ "java/lang/invoke/VarHandle" ∧ (parseMethodDescriptor (yX5_forget).desc).map (fun d => d.parameters.length) = some 0 := (by decide +kernel)
set_option maxRecDepth 100000 in
theorem cw_X5_look : Cond.code yX5_look cX5_look 1 none ∈ z_G := z_G_in (i := 1091) rfl rfl
theorem yw_X5_look : Cond.instanceMethod yX5_look ∈ z_G ∧ Cond.selects RX5 yX5_look yX5_look ∈ z_G ∧ Cond.initialized RX5 ∈ z_G ∧ Cond.code yX5_look cX5_look 1 none ∈ z_G := ⟨z_G_in (i := 1089) (by decide +kernel) (by decide +kernel), z_G_in (i := 1090) (by decide +kernel) (by decide +kernel), ini_X5, cw_X5_look⟩
theorem yd_X5_look : (yX5_look).cls = RX5 ∧ (yX5_look).cls ≠ "java/lang/invoke/MethodHandle" ∧ (yX5_look).cls ≠ "java/lang/invoke/VarHandle" ∧ (parseMethodDescriptor (yX5_look).desc).map (fun d => d.parameters.length) = some 0 := (by decide +kernel)
set_option maxRecDepth 100000 in
theorem cw_X5_takeFixed : Cond.code yX5_takeFixed cX5_takeFixed 3 none ∈ z_G := z_G_in (i := 1095) rfl rfl
theorem yw_X5_takeFixed : Cond.instanceMethod yX5_takeFixed ∈ z_G ∧ Cond.selects RX5 yX5_takeFixed yX5_takeFixed ∈ z_G ∧ Cond.initialized RX5 ∈ z_G ∧ Cond.code yX5_takeFixed cX5_takeFixed 3 none ∈ z_G := ⟨z_G_in (i := 1094) (by decide +kernel) (by decide +kernel), z_G_in (i := 45) (by decide +kernel) (by decide +kernel), ini_X5, cw_X5_takeFixed⟩
theorem yd_X5_takeFixed : (yX5_takeFixed).cls = RX5 ∧ (yX5_takeFixed).cls ≠ "java/lang/invoke/MethodHandle" ∧ (yX5_takeFixed).cls ≠ "java/lang/invoke/VarHandle" ∧ (parseMethodDescriptor (yX5_takeFixed).desc).map (fun d => d.parameters.length) = some 0 := (by decide +kernel)
set_option maxRecDepth 100000 in
theorem cw_X5_groupAddresses : Cond.code yX5_groupAddresses cX5_groupAddresses 4 none ∈ z_G := z_G_in (i := 1100) rfl rfl
theorem yw_X5_groupAddresses : Cond.instanceMethod yX5_groupAddresses ∈ z_G ∧ Cond.selects RX5 yX5_groupAddresses yX5_groupAddresses ∈ z_G ∧ Cond.initialized RX5 ∈ z_G ∧ Cond.code yX5_groupAddresses cX5_groupAddresses 4 none ∈ z_G := ⟨z_G_in (i := 1099) (by decide +kernel) (by decide +kernel), z_G_in (i := 46) (by decide +kernel) (by decide +kernel), ini_X5, cw_X5_groupAddresses⟩
theorem yd_X5_groupAddresses : (yX5_groupAddresses).cls = RX5 ∧ (yX5_groupAddresses).cls ≠ "java/lang/invoke/MethodHandle" ∧ (yX5_groupAddresses).cls ≠ "java/lang/invoke/VarHandle" ∧ (parseMethodDescriptor (yX5_groupAddresses).desc).map (fun d => d.parameters.length) = some 0 := (by decide +kernel)
set_option maxRecDepth 100000 in
theorem cw_X5_layLoose : Cond.code yX5_layLoose cX5_layLoose 9 none ∈ z_G := z_G_in (i := 1107) rfl rfl
theorem yw_X5_layLoose : Cond.instanceMethod yX5_layLoose ∈ z_G ∧ Cond.selects RX5 yX5_layLoose yX5_layLoose ∈ z_G ∧ Cond.initialized RX5 ∈ z_G ∧ Cond.code yX5_layLoose cX5_layLoose 9 none ∈ z_G := ⟨z_G_in (i := 1106) (by decide +kernel) (by decide +kernel), z_G_in (i := 47) (by decide +kernel) (by decide +kernel), ini_X5, cw_X5_layLoose⟩
theorem yd_X5_layLoose : (yX5_layLoose).cls = RX5 ∧ (yX5_layLoose).cls ≠ "java/lang/invoke/MethodHandle" ∧ (yX5_layLoose).cls ≠ "java/lang/invoke/VarHandle" ∧ (parseMethodDescriptor (yX5_layLoose).desc).map (fun d => d.parameters.length) = some 2 := (by decide +kernel)
set_option maxRecDepth 100000 in
theorem cw_X5_judge : Cond.code yX5_judge cX5_judge 4 none ∈ z_G := z_G_in (i := 1111) rfl rfl
theorem yw_X5_judge : Cond.instanceMethod yX5_judge ∈ z_G ∧ Cond.selects RX5 yX5_judge yX5_judge ∈ z_G ∧ Cond.initialized RX5 ∈ z_G ∧ Cond.code yX5_judge cX5_judge 4 none ∈ z_G := ⟨z_G_in (i := 1110) (by decide +kernel) (by decide +kernel), z_G_in (i := 48) (by decide +kernel) (by decide +kernel), ini_X5, cw_X5_judge⟩
theorem yd_X5_judge : (yX5_judge).cls = RX5 ∧ (yX5_judge).cls ≠ "java/lang/invoke/MethodHandle" ∧ (yX5_judge).cls ≠ "java/lang/invoke/VarHandle" ∧ (parseMethodDescriptor (yX5_judge).desc).map (fun d => d.parameters.length) = some 1 := (by decide +kernel)
set_option maxRecDepth 100000 in
theorem cw_X6_init : Cond.code yX6_init cX6_init 1 none ∈ z_G := z_G_in (i := 136) rfl rfl
theorem yi_X6_init : Cond.instanceMethod yX6_init ∈ z_G := z_G_in (i := 135) (by decide +kernel) (by decide +kernel)
theorem yd_X6_init : (yX6_init).cls ≠ "java/lang/invoke/MethodHandle" ∧ (yX6_init).cls ≠ "java/lang/invoke/VarHandle" ∧ (parseMethodDescriptor (yX6_init).desc).map (fun d => d.parameters.length) = some 0 := (by decide +kernel)
set_option maxRecDepth 100000 in
theorem cw_X6_append : Cond.code yX6_append cX6_append 3 none ∈ z_G := z_G_in (i := 541) rfl rfl
theorem yw_X6_append : Cond.instanceMethod yX6_append ∈ z_G ∧ Cond.selects RX6 yX6_append yX6_append ∈ z_G ∧ Cond.initialized RX6 ∈ z_G ∧ Cond.code yX6_append cX6_append 3 none ∈ z_G := ⟨z_G_in (i := 539) (by decide +kernel) (by decide +kernel), z_G_in (i := 540) (by decide +kernel) (by decide +kernel), ini_X6, cw_X6_append⟩
theorem yd_X6_append : (yX6_append).cls = RX6 ∧ (yX6_append).cls ≠ "java/lang/invoke/MethodHandle" ∧ (yX6_append).cls ≠ "java/lang/invoke/VarHandle" ∧ (parseMethodDescriptor (yX6_append).desc).map (fun d => d.parameters.length) = some 1 := (by decide +kernel)
set_option maxRecDepth 100000 in
theorem cw_X6_byteAt : Cond.code yX6_byteAt cX6_byteAt 2 (some .int) ∈ z_G := z_G_in (i := 573) rfl rfl
theorem yw_X6_byteAt : Cond.instanceMethod yX6_byteAt ∈ z_G ∧ Cond.selects RX6 yX6_byteAt yX6_byteAt ∈ z_G ∧ Cond.initialized RX6 ∈ z_G ∧ Cond.code yX6_byteAt cX6_byteAt 2 (some .int) ∈ z_G := ⟨z_G_in (i := 571) (by decide +kernel) (by decide +kernel), z_G_in (i := 572) (by decide +kernel) (by decide +kernel), ini_X6, cw_X6_byteAt⟩
theorem yd_X6_byteAt : (yX6_byteAt).cls = RX6 ∧ (yX6_byteAt).cls ≠ "java/lang/invoke/MethodHandle" ∧ (yX6_byteAt).cls ≠ "java/lang/invoke/VarHandle" ∧ (parseMethodDescriptor (yX6_byteAt).desc).map (fun d => d.parameters.length) = some 1 := (by decide +kernel)
set_option maxRecDepth 100000 in
theorem cw_X7_init : Cond.code yX7_init cX7_init 2 none ∈ z_G := z_G_in (i := 359) rfl rfl
theorem yi_X7_init : Cond.instanceMethod yX7_init ∈ z_G := z_G_in (i := 358) (by decide +kernel) (by decide +kernel)
theorem yd_X7_init : (yX7_init).cls ≠ "java/lang/invoke/MethodHandle" ∧ (yX7_init).cls ≠ "java/lang/invoke/VarHandle" ∧ (parseMethodDescriptor (yX7_init).desc).map (fun d => d.parameters.length) = some 1 := (by decide +kernel)
set_option maxRecDepth 100000 in
theorem cw_X7_begin : Cond.code yX7_begin cX7_begin 1 none ∈ z_G := z_G_in (i := 561) rfl rfl
theorem yw_X7_begin : Cond.instanceMethod yX7_begin ∈ z_G ∧ Cond.selects RX7 yX7_begin yX7_begin ∈ z_G ∧ Cond.initialized RX7 ∈ z_G ∧ Cond.code yX7_begin cX7_begin 1 none ∈ z_G := ⟨z_G_in (i := 559) (by decide +kernel) (by decide +kernel), z_G_in (i := 560) (by decide +kernel) (by decide +kernel), ini_X7, cw_X7_begin⟩
theorem yd_X7_begin : (yX7_begin).cls = RX7 ∧ (yX7_begin).cls ≠ "java/lang/invoke/MethodHandle" ∧ (yX7_begin).cls ≠ "java/lang/invoke/VarHandle" ∧ (parseMethodDescriptor (yX7_begin).desc).map (fun d => d.parameters.length) = some 0 := (by decide +kernel)
set_option maxRecDepth 100000 in
theorem cw_X7_advance : Cond.code yX7_advance cX7_advance 2 none ∈ z_G := z_G_in (i := 565) rfl rfl
theorem yw_X7_advance : Cond.instanceMethod yX7_advance ∈ z_G ∧ Cond.selects RX7 yX7_advance yX7_advance ∈ z_G ∧ Cond.initialized RX7 ∈ z_G ∧ Cond.code yX7_advance cX7_advance 2 none ∈ z_G := ⟨z_G_in (i := 563) (by decide +kernel) (by decide +kernel), z_G_in (i := 564) (by decide +kernel) (by decide +kernel), ini_X7, cw_X7_advance⟩
theorem yd_X7_advance : (yX7_advance).cls = RX7 ∧ (yX7_advance).cls ≠ "java/lang/invoke/MethodHandle" ∧ (yX7_advance).cls ≠ "java/lang/invoke/VarHandle" ∧ (parseMethodDescriptor (yX7_advance).desc).map (fun d => d.parameters.length) = some 0 := (by decide +kernel)
set_option maxRecDepth 100000 in
theorem cw_X7_is : Cond.code yX7_is cX7_is 3 (some .boolean) ∈ z_G := z_G_in (i := 611) rfl rfl
theorem yw_X7_is : Cond.instanceMethod yX7_is ∈ z_G ∧ Cond.selects RX7 yX7_is yX7_is ∈ z_G ∧ Cond.initialized RX7 ∈ z_G ∧ Cond.code yX7_is cX7_is 3 (some .boolean) ∈ z_G := ⟨z_G_in (i := 609) (by decide +kernel) (by decide +kernel), z_G_in (i := 610) (by decide +kernel) (by decide +kernel), ini_X7, cw_X7_is⟩
theorem yd_X7_is : (yX7_is).cls = RX7 ∧ (yX7_is).cls ≠ "java/lang/invoke/MethodHandle" ∧ (yX7_is).cls ≠ "java/lang/invoke/VarHandle" ∧ (parseMethodDescriptor (yX7_is).desc).map (fun d => d.parameters.length) = some 1 := (by decide +kernel)
set_option maxRecDepth 100000 in
theorem cw_X7_isLineWord : Cond.code yX7_isLineWord cX7_isLineWord 1 (some .boolean) ∈ z_G := z_G_in (i := 709) rfl rfl
theorem yw_X7_isLineWord : Cond.instanceMethod yX7_isLineWord ∈ z_G ∧ Cond.selects RX7 yX7_isLineWord yX7_isLineWord ∈ z_G ∧ Cond.initialized RX7 ∈ z_G ∧ Cond.code yX7_isLineWord cX7_isLineWord 1 (some .boolean) ∈ z_G := ⟨z_G_in (i := 707) (by decide +kernel) (by decide +kernel), z_G_in (i := 708) (by decide +kernel) (by decide +kernel), ini_X7, cw_X7_isLineWord⟩
theorem yd_X7_isLineWord : (yX7_isLineWord).cls = RX7 ∧ (yX7_isLineWord).cls ≠ "java/lang/invoke/MethodHandle" ∧ (yX7_isLineWord).cls ≠ "java/lang/invoke/VarHandle" ∧ (parseMethodDescriptor (yX7_isLineWord).desc).map (fun d => d.parameters.length) = some 0 := (by decide +kernel)
set_option maxRecDepth 100000 in
theorem cw_X7_operation : Cond.code yX7_operation cX7_operation 1 (some .int) ∈ z_G := z_G_in (i := 718) rfl rfl
theorem yw_X7_operation : Cond.instanceMethod yX7_operation ∈ z_G ∧ Cond.selects RX7 yX7_operation yX7_operation ∈ z_G ∧ Cond.initialized RX7 ∈ z_G ∧ Cond.code yX7_operation cX7_operation 1 (some .int) ∈ z_G := ⟨z_G_in (i := 716) (by decide +kernel) (by decide +kernel), z_G_in (i := 717) (by decide +kernel) (by decide +kernel), ini_X7, cw_X7_operation⟩
theorem yd_X7_operation : (yX7_operation).cls = RX7 ∧ (yX7_operation).cls ≠ "java/lang/invoke/MethodHandle" ∧ (yX7_operation).cls ≠ "java/lang/invoke/VarHandle" ∧ (parseMethodDescriptor (yX7_operation).desc).map (fun d => d.parameters.length) = some 0 := (by decide +kernel)
set_option maxRecDepth 100000 in
theorem cw_X7_skipBlanks : Cond.code yX7_skipBlanks cX7_skipBlanks 1 none ∈ z_G := z_G_in (i := 569) rfl rfl
theorem yw_X7_skipBlanks : Cond.instanceMethod yX7_skipBlanks ∈ z_G ∧ Cond.selects RX7 yX7_skipBlanks yX7_skipBlanks ∈ z_G ∧ Cond.initialized RX7 ∈ z_G ∧ Cond.code yX7_skipBlanks cX7_skipBlanks 1 none ∈ z_G := ⟨z_G_in (i := 568) (by decide +kernel) (by decide +kernel), z_G_in (i := 0) (by decide +kernel) (by decide +kernel), ini_X7, cw_X7_skipBlanks⟩
theorem yd_X7_skipBlanks : (yX7_skipBlanks).cls = RX7 ∧ (yX7_skipBlanks).cls ≠ "java/lang/invoke/MethodHandle" ∧ (yX7_skipBlanks).cls ≠ "java/lang/invoke/VarHandle" ∧ (parseMethodDescriptor (yX7_skipBlanks).desc).map (fun d => d.parameters.length) = some 0 := (by decide +kernel)
set_option maxRecDepth 100000 in
theorem cw_X7_takeLetters : Cond.code yX7_takeLetters cX7_takeLetters 2 none ∈ z_G := z_G_in (i := 583) rfl rfl
theorem yw_X7_takeLetters : Cond.instanceMethod yX7_takeLetters ∈ z_G ∧ Cond.selects RX7 yX7_takeLetters yX7_takeLetters ∈ z_G ∧ Cond.initialized RX7 ∈ z_G ∧ Cond.code yX7_takeLetters cX7_takeLetters 2 none ∈ z_G := ⟨z_G_in (i := 582) (by decide +kernel) (by decide +kernel), z_G_in (i := 1) (by decide +kernel) (by decide +kernel), ini_X7, cw_X7_takeLetters⟩
theorem yd_X7_takeLetters : (yX7_takeLetters).cls = RX7 ∧ (yX7_takeLetters).cls ≠ "java/lang/invoke/MethodHandle" ∧ (yX7_takeLetters).cls ≠ "java/lang/invoke/VarHandle" ∧ (parseMethodDescriptor (yX7_takeLetters).desc).map (fun d => d.parameters.length) = some 0 := (by decide +kernel)
set_option maxRecDepth 100000 in
theorem cw_X7_takeDigits : Cond.code yX7_takeDigits cX7_takeDigits 1 none ∈ z_G := z_G_in (i := 590) rfl rfl
theorem yw_X7_takeDigits : Cond.instanceMethod yX7_takeDigits ∈ z_G ∧ Cond.selects RX7 yX7_takeDigits yX7_takeDigits ∈ z_G ∧ Cond.initialized RX7 ∈ z_G ∧ Cond.code yX7_takeDigits cX7_takeDigits 1 none ∈ z_G := ⟨z_G_in (i := 589) (by decide +kernel) (by decide +kernel), z_G_in (i := 2) (by decide +kernel) (by decide +kernel), ini_X7, cw_X7_takeDigits⟩
theorem yd_X7_takeDigits : (yX7_takeDigits).cls = RX7 ∧ (yX7_takeDigits).cls ≠ "java/lang/invoke/MethodHandle" ∧ (yX7_takeDigits).cls ≠ "java/lang/invoke/VarHandle" ∧ (parseMethodDescriptor (yX7_takeDigits).desc).map (fun d => d.parameters.length) = some 0 := (by decide +kernel)
set_option maxRecDepth 100000 in
theorem cw_X7_isBlank : Cond.code yX7_isBlank cX7_isBlank 1 (some .boolean) ∈ z_G := z_G_in (i := 576) rfl rfl
theorem yw_X7_isBlank : Cond.static yX7_isBlank ∈ z_G ∧ Cond.initialized (yX7_isBlank).cls ∈ z_G ∧ Cond.code yX7_isBlank cX7_isBlank 1 (some .boolean) ∈ z_G := ⟨z_G_in (i := 575) (by decide +kernel) (by decide +kernel), ini_X7, cw_X7_isBlank⟩
theorem yd_X7_isBlank : (yX7_isBlank).cls ≠ "java/lang/invoke/MethodHandle" ∧ (yX7_isBlank).cls ≠ "java/lang/invoke/VarHandle" ∧ (parseMethodDescriptor (yX7_isBlank).desc).map (fun d => d.parameters.length) = some 1 := (by decide +kernel)
set_option maxRecDepth 100000 in
theorem cw_X7_isLetter : Cond.code yX7_isLetter cX7_isLetter 1 (some .boolean) ∈ z_G := z_G_in (i := 579) rfl rfl
theorem yw_X7_isLetter : Cond.static yX7_isLetter ∈ z_G ∧ Cond.initialized (yX7_isLetter).cls ∈ z_G ∧ Cond.code yX7_isLetter cX7_isLetter 1 (some .boolean) ∈ z_G := ⟨z_G_in (i := 578) (by decide +kernel) (by decide +kernel), ini_X7, cw_X7_isLetter⟩
theorem yd_X7_isLetter : (yX7_isLetter).cls ≠ "java/lang/invoke/MethodHandle" ∧ (yX7_isLetter).cls ≠ "java/lang/invoke/VarHandle" ∧ (parseMethodDescriptor (yX7_isLetter).desc).map (fun d => d.parameters.length) = some 1 := (by decide +kernel)
set_option maxRecDepth 100000 in
theorem cw_X7_isDigit : Cond.code yX7_isDigit cX7_isDigit 1 (some .boolean) ∈ z_G := z_G_in (i := 586) rfl rfl
theorem yw_X7_isDigit : Cond.static yX7_isDigit ∈ z_G ∧ Cond.initialized (yX7_isDigit).cls ∈ z_G ∧ Cond.code yX7_isDigit cX7_isDigit 1 (some .boolean) ∈ z_G := ⟨z_G_in (i := 585) (by decide +kernel) (by decide +kernel), ini_X7, cw_X7_isDigit⟩
theorem yd_X7_isDigit : (yX7_isDigit).cls ≠ "java/lang/invoke/MethodHandle" ∧ (yX7_isDigit).cls ≠ "java/lang/invoke/VarHandle" ∧ (parseMethodDescriptor (yX7_isDigit).desc).map (fun d => d.parameters.length) = some 1 := (by decide +kernel)
set_option maxRecDepth 100000 in
theorem cw_X8_init : Cond.code yX8_init cX8_init 2 none ∈ z_G := z_G_in (i := 254) rfl rfl
theorem yi_X8_init : Cond.instanceMethod yX8_init ∈ z_G := z_G_in (i := 253) (by decide +kernel) (by decide +kernel)
theorem yd_X8_init : (yX8_init).cls ≠ "java/lang/invoke/MethodHandle" ∧ (yX8_init).cls ≠ "java/lang/invoke/VarHandle" ∧ (parseMethodDescriptor (yX8_init).desc).map (fun d => d.parameters.length) = some 1 := (by decide +kernel)
set_option maxRecDepth 100000 in
theorem cw_X8_perform : Cond.code yX8_perform cX8_perform 3 none ∈ z_G := z_G_in (i := 806) rfl rfl
theorem yw_X8_perform : Cond.instanceMethod yX8_perform ∈ z_G ∧ Cond.selects RX8 yX8_perform yX8_perform ∈ z_G ∧ Cond.initialized RX8 ∈ z_G ∧ Cond.code yX8_perform cX8_perform 3 none ∈ z_G := ⟨z_G_in (i := 804) (by decide +kernel) (by decide +kernel), z_G_in (i := 805) (by decide +kernel) (by decide +kernel), ini_X8, cw_X8_perform⟩
theorem yd_X8_perform : (yX8_perform).cls = RX8 ∧ (yX8_perform).cls ≠ "java/lang/invoke/MethodHandle" ∧ (yX8_perform).cls ≠ "java/lang/invoke/VarHandle" ∧ (parseMethodDescriptor (yX8_perform).desc).map (fun d => d.parameters.length) = some 0 := (by decide +kernel)
set_option maxRecDepth 100000 in
theorem cw_X8_doStep : Cond.code yX8_doStep cX8_doStep 5 (some .int) ∈ z_G := z_G_in (i := 812) rfl rfl
theorem yw_X8_doStep : Cond.instanceMethod yX8_doStep ∈ z_G ∧ Cond.selects RX8 yX8_doStep yX8_doStep ∈ z_G ∧ Cond.initialized RX8 ∈ z_G ∧ Cond.code yX8_doStep cX8_doStep 5 (some .int) ∈ z_G := ⟨z_G_in (i := 811) (by decide +kernel) (by decide +kernel), z_G_in (i := 23) (by decide +kernel) (by decide +kernel), ini_X8, cw_X8_doStep⟩
theorem yd_X8_doStep : (yX8_doStep).cls = RX8 ∧ (yX8_doStep).cls ≠ "java/lang/invoke/MethodHandle" ∧ (yX8_doStep).cls ≠ "java/lang/invoke/VarHandle" ∧ (parseMethodDescriptor (yX8_doStep).desc).map (fun d => d.parameters.length) = some 2 := (by decide +kernel)
set_option maxRecDepth 100000 in
theorem cw_X8_addReading : Cond.code yX8_addReading cX8_addReading 3 none ∈ z_G := z_G_in (i := 816) rfl rfl
theorem yw_X8_addReading : Cond.instanceMethod yX8_addReading ∈ z_G ∧ Cond.selects RX8 yX8_addReading yX8_addReading ∈ z_G ∧ Cond.initialized RX8 ∈ z_G ∧ Cond.code yX8_addReading cX8_addReading 3 none ∈ z_G := ⟨z_G_in (i := 815) (by decide +kernel) (by decide +kernel), z_G_in (i := 24) (by decide +kernel) (by decide +kernel), ini_X8, cw_X8_addReading⟩
theorem yd_X8_addReading : (yX8_addReading).cls = RX8 ∧ (yX8_addReading).cls ≠ "java/lang/invoke/MethodHandle" ∧ (yX8_addReading).cls ≠ "java/lang/invoke/VarHandle" ∧ (parseMethodDescriptor (yX8_addReading).desc).map (fun d => d.parameters.length) = some 2 := (by decide +kernel)
set_option maxRecDepth 100000 in
theorem cw_X8_carryOut : Cond.code yX8_carryOut cX8_carryOut 4 none ∈ z_G := z_G_in (i := 821) rfl rfl
theorem yw_X8_carryOut : Cond.instanceMethod yX8_carryOut ∈ z_G ∧ Cond.selects RX8 yX8_carryOut yX8_carryOut ∈ z_G ∧ Cond.initialized RX8 ∈ z_G ∧ Cond.code yX8_carryOut cX8_carryOut 4 none ∈ z_G := ⟨z_G_in (i := 820) (by decide +kernel) (by decide +kernel), z_G_in (i := 25) (by decide +kernel) (by decide +kernel), ini_X8, cw_X8_carryOut⟩
theorem yd_X8_carryOut : (yX8_carryOut).cls = RX8 ∧ (yX8_carryOut).cls ≠ "java/lang/invoke/MethodHandle" ∧ (yX8_carryOut).cls ≠ "java/lang/invoke/VarHandle" ∧ (parseMethodDescriptor (yX8_carryOut).desc).map (fun d => d.parameters.length) = some 3 := (by decide +kernel)
set_option maxRecDepth 100000 in
theorem cw_X8_within : Cond.code yX8_within cX8_within 1 (some .int) ∈ z_G := z_G_in (i := 824) rfl rfl
theorem yw_X8_within : Cond.static yX8_within ∈ z_G ∧ Cond.initialized (yX8_within).cls ∈ z_G ∧ Cond.code yX8_within cX8_within 1 (some .int) ∈ z_G := ⟨z_G_in (i := 823) (by decide +kernel) (by decide +kernel), ini_X8, cw_X8_within⟩
theorem yd_X8_within : (yX8_within).cls ≠ "java/lang/invoke/MethodHandle" ∧ (yX8_within).cls ≠ "java/lang/invoke/VarHandle" ∧ (parseMethodDescriptor (yX8_within).desc).map (fun d => d.parameters.length) = some 1 := (by decide +kernel)
set_option maxRecDepth 100000 in
theorem cw_X8_markPasses : Cond.code yX8_markPasses cX8_markPasses 3 none ∈ z_G := z_G_in (i := 836) rfl rfl
theorem yw_X8_markPasses : Cond.instanceMethod yX8_markPasses ∈ z_G ∧ Cond.selects RX8 yX8_markPasses yX8_markPasses ∈ z_G ∧ Cond.initialized RX8 ∈ z_G ∧ Cond.code yX8_markPasses cX8_markPasses 3 none ∈ z_G := ⟨z_G_in (i := 835) (by decide +kernel) (by decide +kernel), z_G_in (i := 26) (by decide +kernel) (by decide +kernel), ini_X8, cw_X8_markPasses⟩
theorem yd_X8_markPasses : (yX8_markPasses).cls = RX8 ∧ (yX8_markPasses).cls ≠ "java/lang/invoke/MethodHandle" ∧ (yX8_markPasses).cls ≠ "java/lang/invoke/VarHandle" ∧ (parseMethodDescriptor (yX8_markPasses).desc).map (fun d => d.parameters.length) = some 0 := (by decide +kernel)
set_option maxRecDepth 100000 in
theorem cw_X8_weighPasses : Cond.code yX8_weighPasses cX8_weighPasses 6 none ∈ z_G := z_G_in (i := 840) rfl rfl
theorem yw_X8_weighPasses : Cond.instanceMethod yX8_weighPasses ∈ z_G ∧ Cond.selects RX8 yX8_weighPasses yX8_weighPasses ∈ z_G ∧ Cond.initialized RX8 ∈ z_G ∧ Cond.code yX8_weighPasses cX8_weighPasses 6 none ∈ z_G := ⟨z_G_in (i := 839) (by decide +kernel) (by decide +kernel), z_G_in (i := 27) (by decide +kernel) (by decide +kernel), ini_X8, cw_X8_weighPasses⟩
theorem yd_X8_weighPasses : (yX8_weighPasses).cls = RX8 ∧ (yX8_weighPasses).cls ≠ "java/lang/invoke/MethodHandle" ∧ (yX8_weighPasses).cls ≠ "java/lang/invoke/VarHandle" ∧ (parseMethodDescriptor (yX8_weighPasses).desc).map (fun d => d.parameters.length) = some 1 := (by decide +kernel)
set_option maxRecDepth 100000 in
theorem cw_X8_markPassesFrom : Cond.code yX8_markPassesFrom cX8_markPassesFrom 6 (some .int) ∈ z_G := z_G_in (i := 844) rfl rfl
theorem yw_X8_markPassesFrom : Cond.instanceMethod yX8_markPassesFrom ∈ z_G ∧ Cond.selects RX8 yX8_markPassesFrom yX8_markPassesFrom ∈ z_G ∧ Cond.initialized RX8 ∈ z_G ∧ Cond.code yX8_markPassesFrom cX8_markPassesFrom 6 (some .int) ∈ z_G := ⟨z_G_in (i := 843) (by decide +kernel) (by decide +kernel), z_G_in (i := 28) (by decide +kernel) (by decide +kernel), ini_X8, cw_X8_markPassesFrom⟩
theorem yd_X8_markPassesFrom : (yX8_markPassesFrom).cls = RX8 ∧ (yX8_markPassesFrom).cls ≠ "java/lang/invoke/MethodHandle" ∧ (yX8_markPassesFrom).cls ≠ "java/lang/invoke/VarHandle" ∧ (parseMethodDescriptor (yX8_markPassesFrom).desc).map (fun d => d.parameters.length) = some 2 := (by decide +kernel)
set_option maxRecDepth 100000 in
theorem cw_X8_readingsOf : Cond.code yX8_readingsOf cX8_readingsOf 4 (some .int) ∈ z_G := z_G_in (i := 1006) rfl rfl
theorem yw_X8_readingsOf : Cond.instanceMethod yX8_readingsOf ∈ z_G ∧ Cond.selects RX8 yX8_readingsOf yX8_readingsOf ∈ z_G ∧ Cond.initialized RX8 ∈ z_G ∧ Cond.code yX8_readingsOf cX8_readingsOf 4 (some .int) ∈ z_G := ⟨z_G_in (i := 1004) (by decide +kernel) (by decide +kernel), z_G_in (i := 1005) (by decide +kernel) (by decide +kernel), ini_X8, cw_X8_readingsOf⟩
theorem yd_X8_readingsOf : (yX8_readingsOf).cls = RX8 ∧ (yX8_readingsOf).cls ≠ "java/lang/invoke/MethodHandle" ∧ (yX8_readingsOf).cls ≠ "java/lang/invoke/VarHandle" ∧ (parseMethodDescriptor (yX8_readingsOf).desc).map (fun d => d.parameters.length) = some 1 := (by decide +kernel)
set_option maxRecDepth 100000 in
theorem cw_X9_init : Cond.code yX9_init cX9_init 5 none ∈ z_G := z_G_in (i := 128) rfl rfl
theorem yi_X9_init : Cond.instanceMethod yX9_init ∈ z_G := z_G_in (i := 127) (by decide +kernel) (by decide +kernel)
theorem yd_X9_init : (yX9_init).cls ≠ "java/lang/invoke/MethodHandle" ∧ (yX9_init).cls ≠ "java/lang/invoke/VarHandle" ∧ (parseMethodDescriptor (yX9_init).desc).map (fun d => d.parameters.length) = some 0 := (by decide +kernel)
set_option maxRecDepth 100000 in
theorem cw_X9_feed : Cond.code yX9_feed cX9_feed 6 (some .int) ∈ z_G := z_G_in (i := 537) rfl rfl
theorem yw_X9_feed : Cond.instanceMethod yX9_feed ∈ z_G ∧ Cond.selects RX9 yX9_feed yX9_feed ∈ z_G ∧ Cond.initialized RX9 ∈ z_G ∧ Cond.code yX9_feed cX9_feed 6 (some .int) ∈ z_G := ⟨z_G_in (i := 535) (by decide +kernel) (by decide +kernel), z_G_in (i := 536) (by decide +kernel) (by decide +kernel), ini_X9, cw_X9_feed⟩
theorem yd_X9_feed : (yX9_feed).cls = RX9 ∧ (yX9_feed).cls ≠ "java/lang/invoke/MethodHandle" ∧ (yX9_feed).cls ≠ "java/lang/invoke/VarHandle" ∧ (parseMethodDescriptor (yX9_feed).desc).map (fun d => d.parameters.length) = some 5 := (by decide +kernel)
set_option maxRecDepth 100000 in
theorem cw_X9_end : Cond.code yX9_end cX9_end 2 (some .int) ∈ z_G := z_G_in (i := 545) rfl rfl
theorem yw_X9_end : Cond.instanceMethod yX9_end ∈ z_G ∧ Cond.selects RX9 yX9_end yX9_end ∈ z_G ∧ Cond.initialized RX9 ∈ z_G ∧ Cond.code yX9_end cX9_end 2 (some .int) ∈ z_G := ⟨z_G_in (i := 543) (by decide +kernel) (by decide +kernel), z_G_in (i := 544) (by decide +kernel) (by decide +kernel), ini_X9, cw_X9_end⟩
theorem yd_X9_end : (yX9_end).cls = RX9 ∧ (yX9_end).cls ≠ "java/lang/invoke/MethodHandle" ∧ (yX9_end).cls ≠ "java/lang/invoke/VarHandle" ∧ (parseMethodDescriptor (yX9_end).desc).map (fun d => d.parameters.length) = some 1 := (by decide +kernel)
set_option maxRecDepth 100000 in
theorem cw_X9_drum : Cond.code yX9_drum cX9_drum 1 (some .int) ∈ z_G := z_G_in (i := 549) rfl rfl
theorem yw_X9_drum : Cond.instanceMethod yX9_drum ∈ z_G ∧ Cond.selects RX9 yX9_drum yX9_drum ∈ z_G ∧ Cond.initialized RX9 ∈ z_G ∧ Cond.code yX9_drum cX9_drum 1 (some .int) ∈ z_G := ⟨z_G_in (i := 547) (by decide +kernel) (by decide +kernel), z_G_in (i := 548) (by decide +kernel) (by decide +kernel), ini_X9, cw_X9_drum⟩
theorem yd_X9_drum : (yX9_drum).cls = RX9 ∧ (yX9_drum).cls ≠ "java/lang/invoke/MethodHandle" ∧ (yX9_drum).cls ≠ "java/lang/invoke/VarHandle" ∧ (parseMethodDescriptor (yX9_drum).desc).map (fun d => d.parameters.length) = some 0 := (by decide +kernel)
set_option maxRecDepth 100000 in
theorem cw_X9_fault : Cond.code yX9_fault cX9_fault 2 (some .int) ∈ z_G := z_G_in (i := 879) rfl rfl
theorem yw_X9_fault : Cond.instanceMethod yX9_fault ∈ z_G ∧ Cond.selects RX9 yX9_fault yX9_fault ∈ z_G ∧ Cond.initialized RX9 ∈ z_G ∧ Cond.code yX9_fault cX9_fault 2 (some .int) ∈ z_G := ⟨z_G_in (i := 877) (by decide +kernel) (by decide +kernel), z_G_in (i := 878) (by decide +kernel) (by decide +kernel), ini_X9, cw_X9_fault⟩
theorem yd_X9_fault : (yX9_fault).cls = RX9 ∧ (yX9_fault).cls ≠ "java/lang/invoke/MethodHandle" ∧ (yX9_fault).cls ≠ "java/lang/invoke/VarHandle" ∧ (parseMethodDescriptor (yX9_fault).desc).map (fun d => d.parameters.length) = some 1 := (by decide +kernel)
set_option maxRecDepth 100000 in
theorem cw_X9_count : Cond.code yX9_count cX9_count 2 (some .int) ∈ z_G := z_G_in (i := 883) rfl rfl
theorem yw_X9_count : Cond.instanceMethod yX9_count ∈ z_G ∧ Cond.selects RX9 yX9_count yX9_count ∈ z_G ∧ Cond.initialized RX9 ∈ z_G ∧ Cond.code yX9_count cX9_count 2 (some .int) ∈ z_G := ⟨z_G_in (i := 881) (by decide +kernel) (by decide +kernel), z_G_in (i := 882) (by decide +kernel) (by decide +kernel), ini_X9, cw_X9_count⟩
theorem yd_X9_count : (yX9_count).cls = RX9 ∧ (yX9_count).cls ≠ "java/lang/invoke/MethodHandle" ∧ (yX9_count).cls ≠ "java/lang/invoke/VarHandle" ∧ (parseMethodDescriptor (yX9_count).desc).map (fun d => d.parameters.length) = some 1 := (by decide +kernel)
set_option maxRecDepth 100000 in
theorem cw_X9_item : Cond.code yX9_item cX9_item 3 (some .int) ∈ z_G := z_G_in (i := 891) rfl rfl
theorem yw_X9_item : Cond.instanceMethod yX9_item ∈ z_G ∧ Cond.selects RX9 yX9_item yX9_item ∈ z_G ∧ Cond.initialized RX9 ∈ z_G ∧ Cond.code yX9_item cX9_item 3 (some .int) ∈ z_G := ⟨z_G_in (i := 889) (by decide +kernel) (by decide +kernel), z_G_in (i := 890) (by decide +kernel) (by decide +kernel), ini_X9, cw_X9_item⟩
theorem yd_X9_item : (yX9_item).cls = RX9 ∧ (yX9_item).cls ≠ "java/lang/invoke/MethodHandle" ∧ (yX9_item).cls ≠ "java/lang/invoke/VarHandle" ∧ (parseMethodDescriptor (yX9_item).desc).map (fun d => d.parameters.length) = some 2 := (by decide +kernel)
set_option maxRecDepth 100000 in
theorem cw_X9_at : Cond.code yX9_at cX9_at 2 (some .int) ∈ z_G := z_G_in (i := 901) rfl rfl
theorem yw_X9_at : Cond.instanceMethod yX9_at ∈ z_G ∧ Cond.selects RX9 yX9_at yX9_at ∈ z_G ∧ Cond.initialized RX9 ∈ z_G ∧ Cond.code yX9_at cX9_at 2 (some .int) ∈ z_G := ⟨z_G_in (i := 899) (by decide +kernel) (by decide +kernel), z_G_in (i := 900) (by decide +kernel) (by decide +kernel), ini_X9, cw_X9_at⟩
theorem yd_X9_at : (yX9_at).cls = RX9 ∧ (yX9_at).cls ≠ "java/lang/invoke/MethodHandle" ∧ (yX9_at).cls ≠ "java/lang/invoke/VarHandle" ∧ (parseMethodDescriptor (yX9_at).desc).map (fun d => d.parameters.length) = some 1 := (by decide +kernel)
set_option maxRecDepth 100000 in
theorem cw_X9_steps : Cond.code yX9_steps cX9_steps 1 (some .int) ∈ z_G := z_G_in (i := 910) rfl rfl
theorem yw_X9_steps : Cond.instanceMethod yX9_steps ∈ z_G ∧ Cond.selects RX9 yX9_steps yX9_steps ∈ z_G ∧ Cond.initialized RX9 ∈ z_G ∧ Cond.code yX9_steps cX9_steps 1 (some .int) ∈ z_G := ⟨z_G_in (i := 908) (by decide +kernel) (by decide +kernel), z_G_in (i := 909) (by decide +kernel) (by decide +kernel), ini_X9, cw_X9_steps⟩
theorem yd_X9_steps : (yX9_steps).cls = RX9 ∧ (yX9_steps).cls ≠ "java/lang/invoke/MethodHandle" ∧ (yX9_steps).cls ≠ "java/lang/invoke/VarHandle" ∧ (parseMethodDescriptor (yX9_steps).desc).map (fun d => d.parameters.length) = some 0 := (by decide +kernel)
set_option maxRecDepth 100000 in
theorem cw_X9_why : Cond.code yX9_why cX9_why 1 (some .int) ∈ z_G := z_G_in (i := 914) rfl rfl
theorem yw_X9_why : Cond.instanceMethod yX9_why ∈ z_G ∧ Cond.selects RX9 yX9_why yX9_why ∈ z_G ∧ Cond.initialized RX9 ∈ z_G ∧ Cond.code yX9_why cX9_why 1 (some .int) ∈ z_G := ⟨z_G_in (i := 912) (by decide +kernel) (by decide +kernel), z_G_in (i := 913) (by decide +kernel) (by decide +kernel), ini_X9, cw_X9_why⟩
theorem yd_X9_why : (yX9_why).cls = RX9 ∧ (yX9_why).cls ≠ "java/lang/invoke/MethodHandle" ∧ (yX9_why).cls ≠ "java/lang/invoke/VarHandle" ∧ (parseMethodDescriptor (yX9_why).desc).map (fun d => d.parameters.length) = some 0 := (by decide +kernel)
set_option maxRecDepth 100000 in
theorem cw_X9_acc : Cond.code yX9_acc cX9_acc 1 (some .int) ∈ z_G := z_G_in (i := 918) rfl rfl
theorem yw_X9_acc : Cond.instanceMethod yX9_acc ∈ z_G ∧ Cond.selects RX9 yX9_acc yX9_acc ∈ z_G ∧ Cond.initialized RX9 ∈ z_G ∧ Cond.code yX9_acc cX9_acc 1 (some .int) ∈ z_G := ⟨z_G_in (i := 916) (by decide +kernel) (by decide +kernel), z_G_in (i := 917) (by decide +kernel) (by decide +kernel), ini_X9, cw_X9_acc⟩
theorem yd_X9_acc : (yX9_acc).cls = RX9 ∧ (yX9_acc).cls ≠ "java/lang/invoke/MethodHandle" ∧ (yX9_acc).cls ≠ "java/lang/invoke/VarHandle" ∧ (parseMethodDescriptor (yX9_acc).desc).map (fun d => d.parameters.length) = some 0 := (by decide +kernel)
set_option maxRecDepth 100000 in
theorem cw_X9_value : Cond.code yX9_value cX9_value 2 (some .int) ∈ z_G := z_G_in (i := 922) rfl rfl
theorem yw_X9_value : Cond.instanceMethod yX9_value ∈ z_G ∧ Cond.selects RX9 yX9_value yX9_value ∈ z_G ∧ Cond.initialized RX9 ∈ z_G ∧ Cond.code yX9_value cX9_value 2 (some .int) ∈ z_G := ⟨z_G_in (i := 920) (by decide +kernel) (by decide +kernel), z_G_in (i := 921) (by decide +kernel) (by decide +kernel), ini_X9, cw_X9_value⟩
theorem yd_X9_value : (yX9_value).cls = RX9 ∧ (yX9_value).cls ≠ "java/lang/invoke/MethodHandle" ∧ (yX9_value).cls ≠ "java/lang/invoke/VarHandle" ∧ (parseMethodDescriptor (yX9_value).desc).map (fun d => d.parameters.length) = some 1 := (by decide +kernel)
set_option maxRecDepth 100000 in
theorem cw_X9_done : Cond.code yX9_done cX9_done 3 (some .int) ∈ z_G := z_G_in (i := 927) rfl rfl
theorem yw_X9_done : Cond.instanceMethod yX9_done ∈ z_G ∧ Cond.selects RX9 yX9_done yX9_done ∈ z_G ∧ Cond.initialized RX9 ∈ z_G ∧ Cond.code yX9_done cX9_done 3 (some .int) ∈ z_G := ⟨z_G_in (i := 925) (by decide +kernel) (by decide +kernel), z_G_in (i := 926) (by decide +kernel) (by decide +kernel), ini_X9, cw_X9_done⟩
theorem yd_X9_done : (yX9_done).cls = RX9 ∧ (yX9_done).cls ≠ "java/lang/invoke/MethodHandle" ∧ (yX9_done).cls ≠ "java/lang/invoke/VarHandle" ∧ (parseMethodDescriptor (yX9_done).desc).map (fun d => d.parameters.length) = some 2 := (by decide +kernel)
set_option maxRecDepth 100000 in
theorem cw_X9_time : Cond.code yX9_time cX9_time 1 (some .int) ∈ z_G := z_G_in (i := 966) rfl rfl
theorem yw_X9_time : Cond.instanceMethod yX9_time ∈ z_G ∧ Cond.selects RX9 yX9_time yX9_time ∈ z_G ∧ Cond.initialized RX9 ∈ z_G ∧ Cond.code yX9_time cX9_time 1 (some .int) ∈ z_G := ⟨z_G_in (i := 964) (by decide +kernel) (by decide +kernel), z_G_in (i := 965) (by decide +kernel) (by decide +kernel), ini_X9, cw_X9_time⟩
theorem yd_X9_time : (yX9_time).cls = RX9 ∧ (yX9_time).cls ≠ "java/lang/invoke/MethodHandle" ∧ (yX9_time).cls ≠ "java/lang/invoke/VarHandle" ∧ (parseMethodDescriptor (yX9_time).desc).map (fun d => d.parameters.length) = some 0 := (by decide +kernel)
set_option maxRecDepth 100000 in
theorem cw_X9_rounds : Cond.code yX9_rounds cX9_rounds 1 (some .int) ∈ z_G := z_G_in (i := 970) rfl rfl
theorem yw_X9_rounds : Cond.instanceMethod yX9_rounds ∈ z_G ∧ Cond.selects RX9 yX9_rounds yX9_rounds ∈ z_G ∧ Cond.initialized RX9 ∈ z_G ∧ Cond.code yX9_rounds cX9_rounds 1 (some .int) ∈ z_G := ⟨z_G_in (i := 968) (by decide +kernel) (by decide +kernel), z_G_in (i := 969) (by decide +kernel) (by decide +kernel), ini_X9, cw_X9_rounds⟩
theorem yd_X9_rounds : (yX9_rounds).cls = RX9 ∧ (yX9_rounds).cls ≠ "java/lang/invoke/MethodHandle" ∧ (yX9_rounds).cls ≠ "java/lang/invoke/VarHandle" ∧ (parseMethodDescriptor (yX9_rounds).desc).map (fun d => d.parameters.length) = some 0 := (by decide +kernel)
set_option maxRecDepth 100000 in
theorem cw_X9_lost : Cond.code yX9_lost cX9_lost 1 (some .int) ∈ z_G := z_G_in (i := 974) rfl rfl
theorem yw_X9_lost : Cond.instanceMethod yX9_lost ∈ z_G ∧ Cond.selects RX9 yX9_lost yX9_lost ∈ z_G ∧ Cond.initialized RX9 ∈ z_G ∧ Cond.code yX9_lost cX9_lost 1 (some .int) ∈ z_G := ⟨z_G_in (i := 972) (by decide +kernel) (by decide +kernel), z_G_in (i := 973) (by decide +kernel) (by decide +kernel), ini_X9, cw_X9_lost⟩
theorem yd_X9_lost : (yX9_lost).cls = RX9 ∧ (yX9_lost).cls ≠ "java/lang/invoke/MethodHandle" ∧ (yX9_lost).cls ≠ "java/lang/invoke/VarHandle" ∧ (parseMethodDescriptor (yX9_lost).desc).map (fun d => d.parameters.length) = some 0 := (by decide +kernel)
set_option maxRecDepth 100000 in
theorem cw_X9_lostFor : Cond.code yX9_lostFor cX9_lostFor 2 (some .int) ∈ z_G := z_G_in (i := 990) rfl rfl
theorem yw_X9_lostFor : Cond.instanceMethod yX9_lostFor ∈ z_G ∧ Cond.selects RX9 yX9_lostFor yX9_lostFor ∈ z_G ∧ Cond.initialized RX9 ∈ z_G ∧ Cond.code yX9_lostFor cX9_lostFor 2 (some .int) ∈ z_G := ⟨z_G_in (i := 988) (by decide +kernel) (by decide +kernel), z_G_in (i := 989) (by decide +kernel) (by decide +kernel), ini_X9, cw_X9_lostFor⟩
theorem yd_X9_lostFor : (yX9_lostFor).cls = RX9 ∧ (yX9_lostFor).cls ≠ "java/lang/invoke/MethodHandle" ∧ (yX9_lostFor).cls ≠ "java/lang/invoke/VarHandle" ∧ (parseMethodDescriptor (yX9_lostFor).desc).map (fun d => d.parameters.length) = some 1 := (by decide +kernel)
set_option maxRecDepth 100000 in
theorem cw_X9_worst : Cond.code yX9_worst cX9_worst 5 (some .int) ∈ z_G := z_G_in (i := 998) rfl rfl
theorem yw_X9_worst : Cond.instanceMethod yX9_worst ∈ z_G ∧ Cond.selects RX9 yX9_worst yX9_worst ∈ z_G ∧ Cond.initialized RX9 ∈ z_G ∧ Cond.code yX9_worst cX9_worst 5 (some .int) ∈ z_G := ⟨z_G_in (i := 996) (by decide +kernel) (by decide +kernel), z_G_in (i := 997) (by decide +kernel) (by decide +kernel), ini_X9, cw_X9_worst⟩
theorem yd_X9_worst : (yX9_worst).cls = RX9 ∧ (yX9_worst).cls ≠ "java/lang/invoke/MethodHandle" ∧ (yX9_worst).cls ≠ "java/lang/invoke/VarHandle" ∧ (parseMethodDescriptor (yX9_worst).desc).map (fun d => d.parameters.length) = some 0 := (by decide +kernel)
set_option maxRecDepth 100000 in
theorem cw_X9_met : Cond.code yX9_met cX9_met 2 (some .int) ∈ z_G := z_G_in (i := 1002) rfl rfl
theorem yw_X9_met : Cond.instanceMethod yX9_met ∈ z_G ∧ Cond.selects RX9 yX9_met yX9_met ∈ z_G ∧ Cond.initialized RX9 ∈ z_G ∧ Cond.code yX9_met cX9_met 2 (some .int) ∈ z_G := ⟨z_G_in (i := 1000) (by decide +kernel) (by decide +kernel), z_G_in (i := 1001) (by decide +kernel) (by decide +kernel), ini_X9, cw_X9_met⟩
theorem yd_X9_met : (yX9_met).cls = RX9 ∧ (yX9_met).cls ≠ "java/lang/invoke/MethodHandle" ∧ (yX9_met).cls ≠ "java/lang/invoke/VarHandle" ∧ (parseMethodDescriptor (yX9_met).desc).map (fun d => d.parameters.length) = some 1 := (by decide +kernel)
set_option maxRecDepth 100000 in
theorem cw_X9_bound : Cond.code yX9_bound cX9_bound 2 (some .int) ∈ z_G := z_G_in (i := 1010) rfl rfl
theorem yw_X9_bound : Cond.instanceMethod yX9_bound ∈ z_G ∧ Cond.selects RX9 yX9_bound yX9_bound ∈ z_G ∧ Cond.initialized RX9 ∈ z_G ∧ Cond.code yX9_bound cX9_bound 2 (some .int) ∈ z_G := ⟨z_G_in (i := 1008) (by decide +kernel) (by decide +kernel), z_G_in (i := 1009) (by decide +kernel) (by decide +kernel), ini_X9, cw_X9_bound⟩
theorem yd_X9_bound : (yX9_bound).cls = RX9 ∧ (yX9_bound).cls ≠ "java/lang/invoke/MethodHandle" ∧ (yX9_bound).cls ≠ "java/lang/invoke/VarHandle" ∧ (parseMethodDescriptor (yX9_bound).desc).map (fun d => d.parameters.length) = some 0 := (by decide +kernel)
set_option maxRecDepth 100000 in
theorem cw_X9_waiting : Cond.code yX9_waiting cX9_waiting 2 (some .int) ∈ z_G := z_G_in (i := 1014) rfl rfl
theorem yw_X9_waiting : Cond.instanceMethod yX9_waiting ∈ z_G ∧ Cond.selects RX9 yX9_waiting yX9_waiting ∈ z_G ∧ Cond.initialized RX9 ∈ z_G ∧ Cond.code yX9_waiting cX9_waiting 2 (some .int) ∈ z_G := ⟨z_G_in (i := 1012) (by decide +kernel) (by decide +kernel), z_G_in (i := 1013) (by decide +kernel) (by decide +kernel), ini_X9, cw_X9_waiting⟩
theorem yd_X9_waiting : (yX9_waiting).cls = RX9 ∧ (yX9_waiting).cls ≠ "java/lang/invoke/MethodHandle" ∧ (yX9_waiting).cls ≠ "java/lang/invoke/VarHandle" ∧ (parseMethodDescriptor (yX9_waiting).desc).map (fun d => d.parameters.length) = some 1 := (by decide +kernel)
set_option maxRecDepth 100000 in
theorem cw_X9_quicker : Cond.code yX9_quicker cX9_quicker 2 (some .int) ∈ z_G := z_G_in (i := 1018) rfl rfl
theorem yw_X9_quicker : Cond.instanceMethod yX9_quicker ∈ z_G ∧ Cond.selects RX9 yX9_quicker yX9_quicker ∈ z_G ∧ Cond.initialized RX9 ∈ z_G ∧ Cond.code yX9_quicker cX9_quicker 2 (some .int) ∈ z_G := ⟨z_G_in (i := 1016) (by decide +kernel) (by decide +kernel), z_G_in (i := 1017) (by decide +kernel) (by decide +kernel), ini_X9, cw_X9_quicker⟩
theorem yd_X9_quicker : (yX9_quicker).cls = RX9 ∧ (yX9_quicker).cls ≠ "java/lang/invoke/MethodHandle" ∧ (yX9_quicker).cls ≠ "java/lang/invoke/VarHandle" ∧ (parseMethodDescriptor (yX9_quicker).desc).map (fun d => d.parameters.length) = some 1 := (by decide +kernel)
set_option maxRecDepth 100000 in
theorem cw_X9_moved : Cond.code yX9_moved cX9_moved 4 (some .int) ∈ z_G := z_G_in (i := 1023) rfl rfl
theorem yw_X9_moved : Cond.instanceMethod yX9_moved ∈ z_G ∧ Cond.selects RX9 yX9_moved yX9_moved ∈ z_G ∧ Cond.initialized RX9 ∈ z_G ∧ Cond.code yX9_moved cX9_moved 4 (some .int) ∈ z_G := ⟨z_G_in (i := 1021) (by decide +kernel) (by decide +kernel), z_G_in (i := 1022) (by decide +kernel) (by decide +kernel), ini_X9, cw_X9_moved⟩
theorem yd_X9_moved : (yX9_moved).cls = RX9 ∧ (yX9_moved).cls ≠ "java/lang/invoke/MethodHandle" ∧ (yX9_moved).cls ≠ "java/lang/invoke/VarHandle" ∧ (parseMethodDescriptor (yX9_moved).desc).map (fun d => d.parameters.length) = some 2 := (by decide +kernel)
set_option maxRecDepth 100000 in
theorem cw_X9_swapped : Cond.code yX9_swapped cX9_swapped 4 (some .int) ∈ z_G := z_G_in (i := 1038) rfl rfl
theorem yw_X9_swapped : Cond.instanceMethod yX9_swapped ∈ z_G ∧ Cond.selects RX9 yX9_swapped yX9_swapped ∈ z_G ∧ Cond.initialized RX9 ∈ z_G ∧ Cond.code yX9_swapped cX9_swapped 4 (some .int) ∈ z_G := ⟨z_G_in (i := 1036) (by decide +kernel) (by decide +kernel), z_G_in (i := 1037) (by decide +kernel) (by decide +kernel), ini_X9, cw_X9_swapped⟩
theorem yd_X9_swapped : (yX9_swapped).cls = RX9 ∧ (yX9_swapped).cls ≠ "java/lang/invoke/MethodHandle" ∧ (yX9_swapped).cls ≠ "java/lang/invoke/VarHandle" ∧ (parseMethodDescriptor (yX9_swapped).desc).map (fun d => d.parameters.length) = some 2 := (by decide +kernel)
set_option maxRecDepth 100000 in
theorem cw_X9_best : Cond.code yX9_best cX9_best 6 (some .int) ∈ z_G := z_G_in (i := 1050) rfl rfl
theorem yw_X9_best : Cond.instanceMethod yX9_best ∈ z_G ∧ Cond.selects RX9 yX9_best yX9_best ∈ z_G ∧ Cond.initialized RX9 ∈ z_G ∧ Cond.code yX9_best cX9_best 6 (some .int) ∈ z_G := ⟨z_G_in (i := 1048) (by decide +kernel) (by decide +kernel), z_G_in (i := 1049) (by decide +kernel) (by decide +kernel), ini_X9, cw_X9_best⟩
theorem yd_X9_best : (yX9_best).cls = RX9 ∧ (yX9_best).cls ≠ "java/lang/invoke/MethodHandle" ∧ (yX9_best).cls ≠ "java/lang/invoke/VarHandle" ∧ (parseMethodDescriptor (yX9_best).desc).map (fun d => d.parameters.length) = some 0 := (by decide +kernel)
set_option maxRecDepth 100000 in
theorem cw_X9_pair : Cond.code yX9_pair cX9_pair 6 (some .int) ∈ z_G := z_G_in (i := 1059) rfl rfl
theorem yw_X9_pair : Cond.instanceMethod yX9_pair ∈ z_G ∧ Cond.selects RX9 yX9_pair yX9_pair ∈ z_G ∧ Cond.initialized RX9 ∈ z_G ∧ Cond.code yX9_pair cX9_pair 6 (some .int) ∈ z_G := ⟨z_G_in (i := 1057) (by decide +kernel) (by decide +kernel), z_G_in (i := 1058) (by decide +kernel) (by decide +kernel), ini_X9, cw_X9_pair⟩
theorem yd_X9_pair : (yX9_pair).cls = RX9 ∧ (yX9_pair).cls ≠ "java/lang/invoke/MethodHandle" ∧ (yX9_pair).cls ≠ "java/lang/invoke/VarHandle" ∧ (parseMethodDescriptor (yX9_pair).desc).map (fun d => d.parameters.length) = some 0 := (by decide +kernel)
set_option maxRecDepth 100000 in
theorem cw_X9_idle : Cond.code yX9_idle cX9_idle 5 (some .int) ∈ z_G := z_G_in (i := 1063) rfl rfl
theorem yw_X9_idle : Cond.instanceMethod yX9_idle ∈ z_G ∧ Cond.selects RX9 yX9_idle yX9_idle ∈ z_G ∧ Cond.initialized RX9 ∈ z_G ∧ Cond.code yX9_idle cX9_idle 5 (some .int) ∈ z_G := ⟨z_G_in (i := 1061) (by decide +kernel) (by decide +kernel), z_G_in (i := 1062) (by decide +kernel) (by decide +kernel), ini_X9, cw_X9_idle⟩
theorem yd_X9_idle : (yX9_idle).cls = RX9 ∧ (yX9_idle).cls ≠ "java/lang/invoke/MethodHandle" ∧ (yX9_idle).cls ≠ "java/lang/invoke/VarHandle" ∧ (parseMethodDescriptor (yX9_idle).desc).map (fun d => d.parameters.length) = some 0 := (by decide +kernel)
set_option maxRecDepth 100000 in
theorem cw_X9_lawful : Cond.code yX9_lawful cX9_lawful 3 (some .int) ∈ z_G := z_G_in (i := 1067) rfl rfl
theorem yw_X9_lawful : Cond.instanceMethod yX9_lawful ∈ z_G ∧ Cond.selects RX9 yX9_lawful yX9_lawful ∈ z_G ∧ Cond.initialized RX9 ∈ z_G ∧ Cond.code yX9_lawful cX9_lawful 3 (some .int) ∈ z_G := ⟨z_G_in (i := 1065) (by decide +kernel) (by decide +kernel), z_G_in (i := 1066) (by decide +kernel) (by decide +kernel), ini_X9, cw_X9_lawful⟩
theorem yd_X9_lawful : (yX9_lawful).cls = RX9 ∧ (yX9_lawful).cls ≠ "java/lang/invoke/MethodHandle" ∧ (yX9_lawful).cls ≠ "java/lang/invoke/VarHandle" ∧ (parseMethodDescriptor (yX9_lawful).desc).map (fun d => d.parameters.length) = some 1 := (by decide +kernel)
set_option maxRecDepth 100000 in
theorem cw_X9_address : Cond.code yX9_address cX9_address 4 (some .int) ∈ z_G := z_G_in (i := 1122) rfl rfl
theorem yw_X9_address : Cond.instanceMethod yX9_address ∈ z_G ∧ Cond.selects RX9 yX9_address yX9_address ∈ z_G ∧ Cond.initialized RX9 ∈ z_G ∧ Cond.code yX9_address cX9_address 4 (some .int) ∈ z_G := ⟨z_G_in (i := 1120) (by decide +kernel) (by decide +kernel), z_G_in (i := 1121) (by decide +kernel) (by decide +kernel), ini_X9, cw_X9_address⟩
theorem yd_X9_address : (yX9_address).cls = RX9 ∧ (yX9_address).cls ≠ "java/lang/invoke/MethodHandle" ∧ (yX9_address).cls ≠ "java/lang/invoke/VarHandle" ∧ (parseMethodDescriptor (yX9_address).desc).map (fun d => d.parameters.length) = some 2 := (by decide +kernel)
set_option maxRecDepth 100000 in
theorem cw_X9_ways : Cond.code yX9_ways cX9_ways 2 (some .long) ∈ z_G := z_G_in (i := 1126) rfl rfl
theorem yw_X9_ways : Cond.instanceMethod yX9_ways ∈ z_G ∧ Cond.selects RX9 yX9_ways yX9_ways ∈ z_G ∧ Cond.initialized RX9 ∈ z_G ∧ Cond.code yX9_ways cX9_ways 2 (some .long) ∈ z_G := ⟨z_G_in (i := 1124) (by decide +kernel) (by decide +kernel), z_G_in (i := 1125) (by decide +kernel) (by decide +kernel), ini_X9, cw_X9_ways⟩
theorem yd_X9_ways : (yX9_ways).cls = RX9 ∧ (yX9_ways).cls ≠ "java/lang/invoke/MethodHandle" ∧ (yX9_ways).cls ≠ "java/lang/invoke/VarHandle" ∧ (parseMethodDescriptor (yX9_ways).desc).map (fun d => d.parameters.length) = some 0 := (by decide +kernel)
set_option maxRecDepth 100000 in
theorem cw_X9_dearest : Cond.code yX9_dearest cX9_dearest 2 (some .int) ∈ z_G := z_G_in (i := 1130) rfl rfl
theorem yw_X9_dearest : Cond.instanceMethod yX9_dearest ∈ z_G ∧ Cond.selects RX9 yX9_dearest yX9_dearest ∈ z_G ∧ Cond.initialized RX9 ∈ z_G ∧ Cond.code yX9_dearest cX9_dearest 2 (some .int) ∈ z_G := ⟨z_G_in (i := 1128) (by decide +kernel) (by decide +kernel), z_G_in (i := 1129) (by decide +kernel) (by decide +kernel), ini_X9, cw_X9_dearest⟩
theorem yd_X9_dearest : (yX9_dearest).cls = RX9 ∧ (yX9_dearest).cls ≠ "java/lang/invoke/MethodHandle" ∧ (yX9_dearest).cls ≠ "java/lang/invoke/VarHandle" ∧ (parseMethodDescriptor (yX9_dearest).desc).map (fun d => d.parameters.length) = some 0 := (by decide +kernel)
set_option maxRecDepth 100000 in
theorem cw_X9_put : Cond.code yX9_put cX9_put 4 (some .int) ∈ z_G := z_G_in (i := 1134) rfl rfl
theorem yw_X9_put : Cond.instanceMethod yX9_put ∈ z_G ∧ Cond.selects RX9 yX9_put yX9_put ∈ z_G ∧ Cond.initialized RX9 ∈ z_G ∧ Cond.code yX9_put cX9_put 4 (some .int) ∈ z_G := ⟨z_G_in (i := 1132) (by decide +kernel) (by decide +kernel), z_G_in (i := 1133) (by decide +kernel) (by decide +kernel), ini_X9, cw_X9_put⟩
theorem yd_X9_put : (yX9_put).cls = RX9 ∧ (yX9_put).cls ≠ "java/lang/invoke/MethodHandle" ∧ (yX9_put).cls ≠ "java/lang/invoke/VarHandle" ∧ (parseMethodDescriptor (yX9_put).desc).map (fun d => d.parameters.length) = some 2 := (by decide +kernel)
set_option maxRecDepth 100000 in
theorem cw_X9_swap : Cond.code yX9_swap cX9_swap 4 (some .int) ∈ z_G := z_G_in (i := 1143) rfl rfl
theorem yw_X9_swap : Cond.instanceMethod yX9_swap ∈ z_G ∧ Cond.selects RX9 yX9_swap yX9_swap ∈ z_G ∧ Cond.initialized RX9 ∈ z_G ∧ Cond.code yX9_swap cX9_swap 4 (some .int) ∈ z_G := ⟨z_G_in (i := 1141) (by decide +kernel) (by decide +kernel), z_G_in (i := 1142) (by decide +kernel) (by decide +kernel), ini_X9, cw_X9_swap⟩
theorem yd_X9_swap : (yX9_swap).cls = RX9 ∧ (yX9_swap).cls ≠ "java/lang/invoke/MethodHandle" ∧ (yX9_swap).cls ≠ "java/lang/invoke/VarHandle" ∧ (parseMethodDescriptor (yX9_swap).desc).map (fun d => d.parameters.length) = some 2 := (by decide +kernel)
set_option maxRecDepth 100000 in
theorem cw_X9_lays : Cond.code yX9_lays cX9_lays 3 (some .int) ∈ z_G := z_G_in (i := 1151) rfl rfl
theorem yw_X9_lays : Cond.instanceMethod yX9_lays ∈ z_G ∧ Cond.selects RX9 yX9_lays yX9_lays ∈ z_G ∧ Cond.initialized RX9 ∈ z_G ∧ Cond.code yX9_lays cX9_lays 3 (some .int) ∈ z_G := ⟨z_G_in (i := 1149) (by decide +kernel) (by decide +kernel), z_G_in (i := 1150) (by decide +kernel) (by decide +kernel), ini_X9, cw_X9_lays⟩
theorem yd_X9_lays : (yX9_lays).cls = RX9 ∧ (yX9_lays).cls ≠ "java/lang/invoke/MethodHandle" ∧ (yX9_lays).cls ≠ "java/lang/invoke/VarHandle" ∧ (parseMethodDescriptor (yX9_lays).desc).map (fun d => d.parameters.length) = some 1 := (by decide +kernel)
set_option maxRecDepth 100000 in
theorem cw_X9_undo : Cond.code yX9_undo cX9_undo 1 (some .int) ∈ z_G := z_G_in (i := 1155) rfl rfl
theorem yw_X9_undo : Cond.instanceMethod yX9_undo ∈ z_G ∧ Cond.selects RX9 yX9_undo yX9_undo ∈ z_G ∧ Cond.initialized RX9 ∈ z_G ∧ Cond.code yX9_undo cX9_undo 1 (some .int) ∈ z_G := ⟨z_G_in (i := 1153) (by decide +kernel) (by decide +kernel), z_G_in (i := 1154) (by decide +kernel) (by decide +kernel), ini_X9, cw_X9_undo⟩
theorem yd_X9_undo : (yX9_undo).cls = RX9 ∧ (yX9_undo).cls ≠ "java/lang/invoke/MethodHandle" ∧ (yX9_undo).cls ≠ "java/lang/invoke/VarHandle" ∧ (parseMethodDescriptor (yX9_undo).desc).map (fun d => d.parameters.length) = some 0 := (by decide +kernel)
set_option maxRecDepth 100000 in
theorem cw_X9_anew : Cond.code yX9_anew cX9_anew 2 (some .int) ∈ z_G := z_G_in (i := 1163) rfl rfl
theorem yw_X9_anew : Cond.instanceMethod yX9_anew ∈ z_G ∧ Cond.selects RX9 yX9_anew yX9_anew ∈ z_G ∧ Cond.initialized RX9 ∈ z_G ∧ Cond.code yX9_anew cX9_anew 2 (some .int) ∈ z_G := ⟨z_G_in (i := 1161) (by decide +kernel) (by decide +kernel), z_G_in (i := 1162) (by decide +kernel) (by decide +kernel), ini_X9, cw_X9_anew⟩
theorem yd_X9_anew : (yX9_anew).cls = RX9 ∧ (yX9_anew).cls ≠ "java/lang/invoke/MethodHandle" ∧ (yX9_anew).cls ≠ "java/lang/invoke/VarHandle" ∧ (parseMethodDescriptor (yX9_anew).desc).map (fun d => d.parameters.length) = some 0 := (by decide +kernel)
set_option maxRecDepth 100000 in
theorem cw_X9_itemAt : Cond.code yX9_itemAt cX9_itemAt 3 (some .int) ∈ z_G := z_G_in (i := 906) rfl rfl
theorem yw_X9_itemAt : Cond.instanceMethod yX9_itemAt ∈ z_G ∧ Cond.selects RX9 yX9_itemAt yX9_itemAt ∈ z_G ∧ Cond.initialized RX9 ∈ z_G ∧ Cond.code yX9_itemAt cX9_itemAt 3 (some .int) ∈ z_G := ⟨z_G_in (i := 905) (by decide +kernel) (by decide +kernel), z_G_in (i := 33) (by decide +kernel) (by decide +kernel), ini_X9, cw_X9_itemAt⟩
theorem yd_X9_itemAt : (yX9_itemAt).cls = RX9 ∧ (yX9_itemAt).cls ≠ "java/lang/invoke/MethodHandle" ∧ (yX9_itemAt).cls ≠ "java/lang/invoke/VarHandle" ∧ (parseMethodDescriptor (yX9_itemAt).desc).map (fun d => d.parameters.length) = some 1 := (by decide +kernel)
set_option maxRecDepth 100000 in
theorem cw_X9_timeNow : Cond.code yX9_timeNow cX9_timeNow 1 (some .int) ∈ z_G := z_G_in (i := 935) rfl rfl
theorem yw_X9_timeNow : Cond.instanceMethod yX9_timeNow ∈ z_G ∧ Cond.selects RX9 yX9_timeNow yX9_timeNow ∈ z_G ∧ Cond.initialized RX9 ∈ z_G ∧ Cond.code yX9_timeNow cX9_timeNow 1 (some .int) ∈ z_G := ⟨z_G_in (i := 934) (by decide +kernel) (by decide +kernel), z_G_in (i := 35) (by decide +kernel) (by decide +kernel), ini_X9, cw_X9_timeNow⟩
theorem yd_X9_timeNow : (yX9_timeNow).cls = RX9 ∧ (yX9_timeNow).cls ≠ "java/lang/invoke/MethodHandle" ∧ (yX9_timeNow).cls ≠ "java/lang/invoke/VarHandle" ∧ (parseMethodDescriptor (yX9_timeNow).desc).map (fun d => d.parameters.length) = some 0 := (by decide +kernel)
set_option maxRecDepth 100000 in
theorem cw_X9_whenRead : Cond.code yX9_whenRead cX9_whenRead 2 (some .int) ∈ z_G := z_G_in (i := 931) rfl rfl
theorem yw_X9_whenRead : Cond.instanceMethod yX9_whenRead ∈ z_G ∧ Cond.selects RX9 yX9_whenRead yX9_whenRead ∈ z_G ∧ Cond.initialized RX9 ∈ z_G ∧ Cond.code yX9_whenRead cX9_whenRead 2 (some .int) ∈ z_G := ⟨z_G_in (i := 930) (by decide +kernel) (by decide +kernel), z_G_in (i := 34) (by decide +kernel) (by decide +kernel), ini_X9, cw_X9_whenRead⟩
theorem yd_X9_whenRead : (yX9_whenRead).cls = RX9 ∧ (yX9_whenRead).cls ≠ "java/lang/invoke/MethodHandle" ∧ (yX9_whenRead).cls ≠ "java/lang/invoke/VarHandle" ∧ (parseMethodDescriptor (yX9_whenRead).desc).map (fun d => d.parameters.length) = some 1 := (by decide +kernel)
set_option maxRecDepth 100000 in
theorem cw_X9_lostInAll : Cond.code yX9_lostInAll cX9_lostInAll 1 (some .int) ∈ z_G := z_G_in (i := 978) rfl rfl
theorem yw_X9_lostInAll : Cond.instanceMethod yX9_lostInAll ∈ z_G ∧ Cond.selects RX9 yX9_lostInAll yX9_lostInAll ∈ z_G ∧ Cond.initialized RX9 ∈ z_G ∧ Cond.code yX9_lostInAll cX9_lostInAll 1 (some .int) ∈ z_G := ⟨z_G_in (i := 977) (by decide +kernel) (by decide +kernel), z_G_in (i := 36) (by decide +kernel) (by decide +kernel), ini_X9, cw_X9_lostInAll⟩
theorem yd_X9_lostInAll : (yX9_lostInAll).cls = RX9 ∧ (yX9_lostInAll).cls ≠ "java/lang/invoke/MethodHandle" ∧ (yX9_lostInAll).cls ≠ "java/lang/invoke/VarHandle" ∧ (parseMethodDescriptor (yX9_lostInAll).desc).map (fun d => d.parameters.length) = some 0 := (by decide +kernel)
set_option maxRecDepth 100000 in
theorem cw_X9_refusalOfMove : Cond.code yX9_refusalOfMove cX9_refusalOfMove 4 (some .int) ∈ z_G := z_G_in (i := 1027) rfl rfl
theorem yw_X9_refusalOfMove : Cond.instanceMethod yX9_refusalOfMove ∈ z_G ∧ Cond.selects RX9 yX9_refusalOfMove yX9_refusalOfMove ∈ z_G ∧ Cond.initialized RX9 ∈ z_G ∧ Cond.code yX9_refusalOfMove cX9_refusalOfMove 4 (some .int) ∈ z_G := ⟨z_G_in (i := 1026) (by decide +kernel) (by decide +kernel), z_G_in (i := 37) (by decide +kernel) (by decide +kernel), ini_X9, cw_X9_refusalOfMove⟩
theorem yd_X9_refusalOfMove : (yX9_refusalOfMove).cls = RX9 ∧ (yX9_refusalOfMove).cls ≠ "java/lang/invoke/MethodHandle" ∧ (yX9_refusalOfMove).cls ≠ "java/lang/invoke/VarHandle" ∧ (parseMethodDescriptor (yX9_refusalOfMove).desc).map (fun d => d.parameters.length) = some 2 := (by decide +kernel)
set_option maxRecDepth 100000 in
theorem cw_X9_refusalOfExchange : Cond.code yX9_refusalOfExchange cX9_refusalOfExchange 3 (some .int) ∈ z_G := z_G_in (i := 1042) rfl rfl
theorem yw_X9_refusalOfExchange : Cond.instanceMethod yX9_refusalOfExchange ∈ z_G ∧ Cond.selects RX9 yX9_refusalOfExchange yX9_refusalOfExchange ∈ z_G ∧ Cond.initialized RX9 ∈ z_G ∧ Cond.code yX9_refusalOfExchange cX9_refusalOfExchange 3 (some .int) ∈ z_G := ⟨z_G_in (i := 1041) (by decide +kernel) (by decide +kernel), z_G_in (i := 39) (by decide +kernel) (by decide +kernel), ini_X9, cw_X9_refusalOfExchange⟩
theorem yd_X9_refusalOfExchange : (yX9_refusalOfExchange).cls = RX9 ∧ (yX9_refusalOfExchange).cls ≠ "java/lang/invoke/MethodHandle" ∧ (yX9_refusalOfExchange).cls ≠ "java/lang/invoke/VarHandle" ∧ (parseMethodDescriptor (yX9_refusalOfExchange).desc).map (fun d => d.parameters.length) = some 2 := (by decide +kernel)
set_option maxRecDepth 100000 in
theorem cw_X9_refusalOfLaw : Cond.code yX9_refusalOfLaw cX9_refusalOfLaw 2 (some .int) ∈ z_G := z_G_in (i := 1071) rfl rfl
theorem yw_X9_refusalOfLaw : Cond.instanceMethod yX9_refusalOfLaw ∈ z_G ∧ Cond.selects RX9 yX9_refusalOfLaw yX9_refusalOfLaw ∈ z_G ∧ Cond.initialized RX9 ∈ z_G ∧ Cond.code yX9_refusalOfLaw cX9_refusalOfLaw 2 (some .int) ∈ z_G := ⟨z_G_in (i := 1070) (by decide +kernel) (by decide +kernel), z_G_in (i := 42) (by decide +kernel) (by decide +kernel), ini_X9, cw_X9_refusalOfLaw⟩
theorem yd_X9_refusalOfLaw : (yX9_refusalOfLaw).cls = RX9 ∧ (yX9_refusalOfLaw).cls ≠ "java/lang/invoke/MethodHandle" ∧ (yX9_refusalOfLaw).cls ≠ "java/lang/invoke/VarHandle" ∧ (parseMethodDescriptor (yX9_refusalOfLaw).desc).map (fun d => d.parameters.length) = some 1 := (by decide +kernel)
set_option maxRecDepth 100000 in
theorem cw_X9_isMove : Cond.code yX9_isMove cX9_isMove 3 (some .boolean) ∈ z_G := z_G_in (i := 1055) rfl rfl
theorem yw_X9_isMove : Cond.instanceMethod yX9_isMove ∈ z_G ∧ Cond.selects RX9 yX9_isMove yX9_isMove ∈ z_G ∧ Cond.initialized RX9 ∈ z_G ∧ Cond.code yX9_isMove cX9_isMove 3 (some .boolean) ∈ z_G := ⟨z_G_in (i := 1054) (by decide +kernel) (by decide +kernel), z_G_in (i := 41) (by decide +kernel) (by decide +kernel), ini_X9, cw_X9_isMove⟩
theorem yd_X9_isMove : (yX9_isMove).cls = RX9 ∧ (yX9_isMove).cls ≠ "java/lang/invoke/MethodHandle" ∧ (yX9_isMove).cls ≠ "java/lang/invoke/VarHandle" ∧ (parseMethodDescriptor (yX9_isMove).desc).map (fun d => d.parameters.length) = some 2 := (by decide +kernel)
set_option maxRecDepth 100000 in
theorem cw_X9_timeMoved : Cond.code yX9_timeMoved cX9_timeMoved 3 (some .int) ∈ z_G := z_G_in (i := 1031) rfl rfl
theorem yw_X9_timeMoved : Cond.instanceMethod yX9_timeMoved ∈ z_G ∧ Cond.selects RX9 yX9_timeMoved yX9_timeMoved ∈ z_G ∧ Cond.initialized RX9 ∈ z_G ∧ Cond.code yX9_timeMoved cX9_timeMoved 3 (some .int) ∈ z_G := ⟨z_G_in (i := 1030) (by decide +kernel) (by decide +kernel), z_G_in (i := 38) (by decide +kernel) (by decide +kernel), ini_X9, cw_X9_timeMoved⟩
theorem yd_X9_timeMoved : (yX9_timeMoved).cls = RX9 ∧ (yX9_timeMoved).cls ≠ "java/lang/invoke/MethodHandle" ∧ (yX9_timeMoved).cls ≠ "java/lang/invoke/VarHandle" ∧ (parseMethodDescriptor (yX9_timeMoved).desc).map (fun d => d.parameters.length) = some 2 := (by decide +kernel)
set_option maxRecDepth 100000 in
theorem cw_X9_timeExchanged : Cond.code yX9_timeExchanged cX9_timeExchanged 3 (some .int) ∈ z_G := z_G_in (i := 1046) rfl rfl
theorem yw_X9_timeExchanged : Cond.instanceMethod yX9_timeExchanged ∈ z_G ∧ Cond.selects RX9 yX9_timeExchanged yX9_timeExchanged ∈ z_G ∧ Cond.initialized RX9 ∈ z_G ∧ Cond.code yX9_timeExchanged cX9_timeExchanged 3 (some .int) ∈ z_G := ⟨z_G_in (i := 1045) (by decide +kernel) (by decide +kernel), z_G_in (i := 40) (by decide +kernel) (by decide +kernel), ini_X9, cw_X9_timeExchanged⟩
theorem yd_X9_timeExchanged : (yX9_timeExchanged).cls = RX9 ∧ (yX9_timeExchanged).cls ≠ "java/lang/invoke/MethodHandle" ∧ (yX9_timeExchanged).cls ≠ "java/lang/invoke/VarHandle" ∧ (parseMethodDescriptor (yX9_timeExchanged).desc).map (fun d => d.parameters.length) = some 2 := (by decide +kernel)
set_option maxRecDepth 100000 in
theorem cw_X9_exchange : Cond.code yX9_exchange cX9_exchange 4 none ∈ z_G := z_G_in (i := 1147) rfl rfl
theorem yw_X9_exchange : Cond.instanceMethod yX9_exchange ∈ z_G ∧ Cond.selects RX9 yX9_exchange yX9_exchange ∈ z_G ∧ Cond.initialized RX9 ∈ z_G ∧ Cond.code yX9_exchange cX9_exchange 4 none ∈ z_G := ⟨z_G_in (i := 1146) (by decide +kernel) (by decide +kernel), z_G_in (i := 49) (by decide +kernel) (by decide +kernel), ini_X9, cw_X9_exchange⟩
theorem yd_X9_exchange : (yX9_exchange).cls = RX9 ∧ (yX9_exchange).cls ≠ "java/lang/invoke/MethodHandle" ∧ (yX9_exchange).cls ≠ "java/lang/invoke/VarHandle" ∧ (parseMethodDescriptor (yX9_exchange).desc).map (fun d => d.parameters.length) = some 2 := (by decide +kernel)
set_option maxRecDepth 100000 in
theorem cw_X9_layBy : Cond.code yX9_layBy cX9_layBy 3 none ∈ z_G := z_G_in (i := 1075) rfl rfl
theorem yw_X9_layBy : Cond.instanceMethod yX9_layBy ∈ z_G ∧ Cond.selects RX9 yX9_layBy yX9_layBy ∈ z_G ∧ Cond.initialized RX9 ∈ z_G ∧ Cond.code yX9_layBy cX9_layBy 3 none ∈ z_G := ⟨z_G_in (i := 1074) (by decide +kernel) (by decide +kernel), z_G_in (i := 43) (by decide +kernel) (by decide +kernel), ini_X9, cw_X9_layBy⟩
theorem yd_X9_layBy : (yX9_layBy).cls = RX9 ∧ (yX9_layBy).cls ≠ "java/lang/invoke/MethodHandle" ∧ (yX9_layBy).cls ≠ "java/lang/invoke/VarHandle" ∧ (parseMethodDescriptor (yX9_layBy).desc).map (fun d => d.parameters.length) = some 2 := (by decide +kernel)
set_option maxRecDepth 100000 in
theorem cw_X9_copyItems : Cond.code yX9_copyItems cX9_copyItems 2 none ∈ z_G := z_G_in (i := 798) rfl rfl
theorem yw_X9_copyItems : Cond.static yX9_copyItems ∈ z_G ∧ Cond.initialized (yX9_copyItems).cls ∈ z_G ∧ Cond.code yX9_copyItems cX9_copyItems 2 none ∈ z_G := ⟨z_G_in (i := 797) (by decide +kernel) (by decide +kernel), ini_X9, cw_X9_copyItems⟩
theorem yd_X9_copyItems : (yX9_copyItems).cls ≠ "java/lang/invoke/MethodHandle" ∧ (yX9_copyItems).cls ≠ "java/lang/invoke/VarHandle" ∧ (parseMethodDescriptor (yX9_copyItems).desc).map (fun d => d.parameters.length) = some 2 := (by decide +kernel)
set_option maxRecDepth 100000 in
theorem cw_X9_isQuick : Cond.code yX9_isQuick cX9_isQuick 2 (some .boolean) ∈ z_G := z_G_in (i := 687) rfl rfl
theorem yw_X9_isQuick : Cond.static yX9_isQuick ∈ z_G ∧ Cond.initialized (yX9_isQuick).cls ∈ z_G ∧ Cond.code yX9_isQuick cX9_isQuick 2 (some .boolean) ∈ z_G := ⟨z_G_in (i := 686) (by decide +kernel) (by decide +kernel), ini_X9, cw_X9_isQuick⟩
theorem yd_X9_isQuick : (yX9_isQuick).cls ≠ "java/lang/invoke/MethodHandle" ∧ (yX9_isQuick).cls ≠ "java/lang/invoke/VarHandle" ∧ (parseMethodDescriptor (yX9_isQuick).desc).map (fun d => d.parameters.length) = some 2 := (by decide +kernel)
set_option maxRecDepth 100000 in
theorem cw_X10_in : Cond.code yX10_in cX10_in 6 (some .boolean) ∈ z_G := z_G_in (i := 1340) rfl rfl
theorem yw_X10_in : Cond.static yX10_in ∈ z_G ∧ Cond.initialized (yX10_in).cls ∈ z_G ∧ Cond.code yX10_in cX10_in 6 (some .boolean) ∈ z_G := ⟨z_G_in (i := 1339) (by decide +kernel) (by decide +kernel), ini_X10, cw_X10_in⟩
theorem yd_X10_in : (yX10_in).cls ≠ "java/lang/invoke/MethodHandle" ∧ (yX10_in).cls ≠ "java/lang/invoke/VarHandle" ∧ (parseMethodDescriptor (yX10_in).desc).map (fun d => d.parameters.length) = some 3 := (by decide +kernel)
set_option maxRecDepth 100000 in
theorem cw_X10_init : Cond.code yX10_init cX10_init 1 none ∈ z_G := z_G_in (i := 1168) rfl rfl
theorem yi_X10_init : Cond.instanceMethod yX10_init ∈ z_G := z_G_in (i := 1167) (by decide +kernel) (by decide +kernel)
theorem yd_X10_init : (yX10_init).cls ≠ "java/lang/invoke/MethodHandle" ∧ (yX10_init).cls ≠ "java/lang/invoke/VarHandle" ∧ (parseMethodDescriptor (yX10_init).desc).map (fun d => d.parameters.length) = some 0 := (by decide +kernel)
set_option maxRecDepth 100000 in
theorem cw_X10_feed : Cond.code yX10_feed cX10_feed 8 (some .int) ∈ z_G := z_G_in (i := 1333) rfl rfl
theorem yw_X10_feed : Cond.instanceMethod yX10_feed ∈ z_G ∧ Cond.selects RX10 yX10_feed yX10_feed ∈ z_G ∧ Cond.initialized RX10 ∈ z_G ∧ Cond.code yX10_feed cX10_feed 8 (some .int) ∈ z_G := ⟨z_G_in (i := 1331) (by decide +kernel) (by decide +kernel), z_G_in (i := 1332) (by decide +kernel) (by decide +kernel), ini_X10, cw_X10_feed⟩
theorem yd_X10_feed : (yX10_feed).cls = RX10 ∧ (yX10_feed).cls ≠ "java/lang/invoke/MethodHandle" ∧ (yX10_feed).cls ≠ "java/lang/invoke/VarHandle" ∧ (parseMethodDescriptor (yX10_feed).desc).map (fun d => d.parameters.length) = some 5 := (by decide +kernel)
set_option maxRecDepth 100000 in
theorem cw_X10_end : Cond.code yX10_end cX10_end 2 (some .int) ∈ z_G := z_G_in (i := 1337) rfl rfl
theorem yw_X10_end : Cond.instanceMethod yX10_end ∈ z_G ∧ Cond.selects RX10 yX10_end yX10_end ∈ z_G ∧ Cond.initialized RX10 ∈ z_G ∧ Cond.code yX10_end cX10_end 2 (some .int) ∈ z_G := ⟨z_G_in (i := 1335) (by decide +kernel) (by decide +kernel), z_G_in (i := 1336) (by decide +kernel) (by decide +kernel), ini_X10, cw_X10_end⟩
theorem yd_X10_end : (yX10_end).cls = RX10 ∧ (yX10_end).cls ≠ "java/lang/invoke/MethodHandle" ∧ (yX10_end).cls ≠ "java/lang/invoke/VarHandle" ∧ (parseMethodDescriptor (yX10_end).desc).map (fun d => d.parameters.length) = some 1 := (by decide +kernel)
set_option maxRecDepth 100000 in
theorem cw_X10_isAt : Cond.code yX10_isAt cX10_isAt 3 (some .boolean) ∈ z_G := z_G_in (i := 1352) rfl rfl
theorem yw_X10_isAt : Cond.instanceMethod yX10_isAt ∈ z_G ∧ Cond.selects RX10 yX10_isAt yX10_isAt ∈ z_G ∧ Cond.initialized RX10 ∈ z_G ∧ Cond.code yX10_isAt cX10_isAt 3 (some .boolean) ∈ z_G := ⟨z_G_in (i := 1351) (by decide +kernel) (by decide +kernel), z_G_in (i := 51) (by decide +kernel) (by decide +kernel), ini_X10, cw_X10_isAt⟩
theorem yd_X10_isAt : (yX10_isAt).cls = RX10 ∧ (yX10_isAt).cls ≠ "java/lang/invoke/MethodHandle" ∧ (yX10_isAt).cls ≠ "java/lang/invoke/VarHandle" ∧ (parseMethodDescriptor (yX10_isAt).desc).map (fun d => d.parameters.length) = some 2 := (by decide +kernel)
set_option maxRecDepth 100000 in
theorem cw_X10_next : Cond.code yX10_next cX10_next 1 none ∈ z_G := z_G_in (i := 1348) rfl rfl
theorem yw_X10_next : Cond.instanceMethod yX10_next ∈ z_G ∧ Cond.selects RX10 yX10_next yX10_next ∈ z_G ∧ Cond.initialized RX10 ∈ z_G ∧ Cond.code yX10_next cX10_next 1 none ∈ z_G := ⟨z_G_in (i := 1347) (by decide +kernel) (by decide +kernel), z_G_in (i := 50) (by decide +kernel) (by decide +kernel), ini_X10, cw_X10_next⟩
theorem yd_X10_next : (yX10_next).cls = RX10 ∧ (yX10_next).cls ≠ "java/lang/invoke/MethodHandle" ∧ (yX10_next).cls ≠ "java/lang/invoke/VarHandle" ∧ (parseMethodDescriptor (yX10_next).desc).map (fun d => d.parameters.length) = some 0 := (by decide +kernel)
set_option maxRecDepth 100000 in
theorem cw_X10_keptHere : Cond.code yX10_keptHere cX10_keptHere 6 (some .int) ∈ z_G := z_G_in (i := 1356) rfl rfl
theorem yw_X10_keptHere : Cond.instanceMethod yX10_keptHere ∈ z_G ∧ Cond.selects RX10 yX10_keptHere yX10_keptHere ∈ z_G ∧ Cond.initialized RX10 ∈ z_G ∧ Cond.code yX10_keptHere cX10_keptHere 6 (some .int) ∈ z_G := ⟨z_G_in (i := 1355) (by decide +kernel) (by decide +kernel), z_G_in (i := 52) (by decide +kernel) (by decide +kernel), ini_X10, cw_X10_keptHere⟩
theorem yd_X10_keptHere : (yX10_keptHere).cls = RX10 ∧ (yX10_keptHere).cls ≠ "java/lang/invoke/MethodHandle" ∧ (yX10_keptHere).cls ≠ "java/lang/invoke/VarHandle" ∧ (parseMethodDescriptor (yX10_keptHere).desc).map (fun d => d.parameters.length) = some 0 := (by decide +kernel)
set_option maxRecDepth 100000 in
theorem cw_X10_isWord : Cond.code yX10_isWord cX10_isWord 4 (some .boolean) ∈ z_G := z_G_in (i := 1382) rfl rfl
theorem yw_X10_isWord : Cond.instanceMethod yX10_isWord ∈ z_G ∧ Cond.selects RX10 yX10_isWord yX10_isWord ∈ z_G ∧ Cond.initialized RX10 ∈ z_G ∧ Cond.code yX10_isWord cX10_isWord 4 (some .boolean) ∈ z_G := ⟨z_G_in (i := 1381) (by decide +kernel) (by decide +kernel), z_G_in (i := 57) (by decide +kernel) (by decide +kernel), ini_X10, cw_X10_isWord⟩
theorem yd_X10_isWord : (yX10_isWord).cls = RX10 ∧ (yX10_isWord).cls ≠ "java/lang/invoke/MethodHandle" ∧ (yX10_isWord).cls ≠ "java/lang/invoke/VarHandle" ∧ (parseMethodDescriptor (yX10_isWord).desc).map (fun d => d.parameters.length) = some 1 := (by decide +kernel)
set_option maxRecDepth 100000 in
theorem cw_X10_isSign : Cond.code yX10_isSign cX10_isSign 2 (some .boolean) ∈ z_G := z_G_in (i := 1423) rfl rfl
theorem yw_X10_isSign : Cond.instanceMethod yX10_isSign ∈ z_G ∧ Cond.selects RX10 yX10_isSign yX10_isSign ∈ z_G ∧ Cond.initialized RX10 ∈ z_G ∧ Cond.code yX10_isSign cX10_isSign 2 (some .boolean) ∈ z_G := ⟨z_G_in (i := 1422) (by decide +kernel) (by decide +kernel), z_G_in (i := 66) (by decide +kernel) (by decide +kernel), ini_X10, cw_X10_isSign⟩
theorem yd_X10_isSign : (yX10_isSign).cls = RX10 ∧ (yX10_isSign).cls ≠ "java/lang/invoke/MethodHandle" ∧ (yX10_isSign).cls ≠ "java/lang/invoke/VarHandle" ∧ (parseMethodDescriptor (yX10_isSign).desc).map (fun d => d.parameters.length) = some 1 := (by decide +kernel)
set_option maxRecDepth 100000 in
theorem cw_X10_faults : Cond.code yX10_faults cX10_faults 2 none ∈ z_G := z_G_in (i := 1373) rfl rfl
theorem yw_X10_faults : Cond.instanceMethod yX10_faults ∈ z_G ∧ Cond.selects RX10 yX10_faults yX10_faults ∈ z_G ∧ Cond.initialized RX10 ∈ z_G ∧ Cond.code yX10_faults cX10_faults 2 none ∈ z_G := ⟨z_G_in (i := 1372) (by decide +kernel) (by decide +kernel), z_G_in (i := 55) (by decide +kernel) (by decide +kernel), ini_X10, cw_X10_faults⟩
theorem yd_X10_faults : (yX10_faults).cls = RX10 ∧ (yX10_faults).cls ≠ "java/lang/invoke/MethodHandle" ∧ (yX10_faults).cls ≠ "java/lang/invoke/VarHandle" ∧ (parseMethodDescriptor (yX10_faults).desc).map (fun d => d.parameters.length) = some 1 := (by decide +kernel)
set_option maxRecDepth 100000 in
theorem cw_X10_passes : Cond.code yX10_passes cX10_passes 2 none ∈ z_G := z_G_in (i := 1369) rfl rfl
theorem yw_X10_passes : Cond.instanceMethod yX10_passes ∈ z_G ∧ Cond.selects RX10 yX10_passes yX10_passes ∈ z_G ∧ Cond.initialized RX10 ∈ z_G ∧ Cond.code yX10_passes cX10_passes 2 none ∈ z_G := ⟨z_G_in (i := 1368) (by decide +kernel) (by decide +kernel), z_G_in (i := 54) (by decide +kernel) (by decide +kernel), ini_X10, cw_X10_passes⟩
theorem yd_X10_passes : (yX10_passes).cls = RX10 ∧ (yX10_passes).cls ≠ "java/lang/invoke/MethodHandle" ∧ (yX10_passes).cls ≠ "java/lang/invoke/VarHandle" ∧ (parseMethodDescriptor (yX10_passes).desc).map (fun d => d.parameters.length) = some 1 := (by decide +kernel)
set_option maxRecDepth 100000 in
theorem cw_X10_reads : Cond.code yX10_reads cX10_reads 4 (some .int) ∈ z_G := z_G_in (i := 1386) rfl rfl
theorem yw_X10_reads : Cond.instanceMethod yX10_reads ∈ z_G ∧ Cond.selects RX10 yX10_reads yX10_reads ∈ z_G ∧ Cond.initialized RX10 ∈ z_G ∧ Cond.code yX10_reads cX10_reads 4 (some .int) ∈ z_G := ⟨z_G_in (i := 1385) (by decide +kernel) (by decide +kernel), z_G_in (i := 58) (by decide +kernel) (by decide +kernel), ini_X10, cw_X10_reads⟩
theorem yd_X10_reads : (yX10_reads).cls = RX10 ∧ (yX10_reads).cls ≠ "java/lang/invoke/MethodHandle" ∧ (yX10_reads).cls ≠ "java/lang/invoke/VarHandle" ∧ (parseMethodDescriptor (yX10_reads).desc).map (fun d => d.parameters.length) = some 2 := (by decide +kernel)
set_option maxRecDepth 100000 in
theorem cw_X10_named : Cond.code yX10_named cX10_named 4 (some .int) ∈ z_G := z_G_in (i := 1378) rfl rfl
theorem yw_X10_named : Cond.instanceMethod yX10_named ∈ z_G ∧ Cond.selects RX10 yX10_named yX10_named ∈ z_G ∧ Cond.initialized RX10 ∈ z_G ∧ Cond.code yX10_named cX10_named 4 (some .int) ∈ z_G := ⟨z_G_in (i := 1377) (by decide +kernel) (by decide +kernel), z_G_in (i := 56) (by decide +kernel) (by decide +kernel), ini_X10, cw_X10_named⟩
theorem yd_X10_named : (yX10_named).cls = RX10 ∧ (yX10_named).cls ≠ "java/lang/invoke/MethodHandle" ∧ (yX10_named).cls ≠ "java/lang/invoke/VarHandle" ∧ (parseMethodDescriptor (yX10_named).desc).map (fun d => d.parameters.length) = some 3 := (by decide +kernel)
set_option maxRecDepth 100000 in
theorem cw_X10_readsDrum : Cond.code yX10_readsDrum cX10_readsDrum 1 none ∈ z_G := z_G_in (i := 1365) rfl rfl
theorem yw_X10_readsDrum : Cond.instanceMethod yX10_readsDrum ∈ z_G ∧ Cond.selects RX10 yX10_readsDrum yX10_readsDrum ∈ z_G ∧ Cond.initialized RX10 ∈ z_G ∧ Cond.code yX10_readsDrum cX10_readsDrum 1 none ∈ z_G := ⟨z_G_in (i := 1364) (by decide +kernel) (by decide +kernel), z_G_in (i := 53) (by decide +kernel) (by decide +kernel), ini_X10, cw_X10_readsDrum⟩
theorem yd_X10_readsDrum : (yX10_readsDrum).cls = RX10 ∧ (yX10_readsDrum).cls ≠ "java/lang/invoke/MethodHandle" ∧ (yX10_readsDrum).cls ≠ "java/lang/invoke/VarHandle" ∧ (parseMethodDescriptor (yX10_readsDrum).desc).map (fun d => d.parameters.length) = some 0 := (by decide +kernel)
set_option maxRecDepth 100000 in
theorem cw_X10_isQuick : Cond.code yX10_isQuick cX10_isQuick 2 (some .boolean) ∈ z_G := z_G_in (i := 1393) rfl rfl
theorem yw_X10_isQuick : Cond.instanceMethod yX10_isQuick ∈ z_G ∧ Cond.selects RX10 yX10_isQuick yX10_isQuick ∈ z_G ∧ Cond.initialized RX10 ∈ z_G ∧ Cond.code yX10_isQuick cX10_isQuick 2 (some .boolean) ∈ z_G := ⟨z_G_in (i := 1392) (by decide +kernel) (by decide +kernel), z_G_in (i := 59) (by decide +kernel) (by decide +kernel), ini_X10, cw_X10_isQuick⟩
theorem yd_X10_isQuick : (yX10_isQuick).cls = RX10 ∧ (yX10_isQuick).cls ≠ "java/lang/invoke/MethodHandle" ∧ (yX10_isQuick).cls ≠ "java/lang/invoke/VarHandle" ∧ (parseMethodDescriptor (yX10_isQuick).desc).map (fun d => d.parameters.length) = some 1 := (by decide +kernel)
set_option maxRecDepth 100000 in
theorem cw_X10_isAlike : Cond.code yX10_isAlike cX10_isAlike 7 (some .boolean) ∈ z_G := z_G_in (i := 1410) rfl rfl
theorem yw_X10_isAlike : Cond.instanceMethod yX10_isAlike ∈ z_G ∧ Cond.selects RX10 yX10_isAlike yX10_isAlike ∈ z_G ∧ Cond.initialized RX10 ∈ z_G ∧ Cond.code yX10_isAlike cX10_isAlike 7 (some .boolean) ∈ z_G := ⟨z_G_in (i := 1409) (by decide +kernel) (by decide +kernel), z_G_in (i := 63) (by decide +kernel) (by decide +kernel), ini_X10, cw_X10_isAlike⟩
theorem yd_X10_isAlike : (yX10_isAlike).cls = RX10 ∧ (yX10_isAlike).cls ≠ "java/lang/invoke/MethodHandle" ∧ (yX10_isAlike).cls ≠ "java/lang/invoke/VarHandle" ∧ (parseMethodDescriptor (yX10_isAlike).desc).map (fun d => d.parameters.length) = some 4 := (by decide +kernel)
set_option maxRecDepth 100000 in
theorem cw_X10_itemNamed : Cond.code yX10_itemNamed cX10_itemNamed 4 (some .int) ∈ z_G := z_G_in (i := 1406) rfl rfl
theorem yw_X10_itemNamed : Cond.instanceMethod yX10_itemNamed ∈ z_G ∧ Cond.selects RX10 yX10_itemNamed yX10_itemNamed ∈ z_G ∧ Cond.initialized RX10 ∈ z_G ∧ Cond.code yX10_itemNamed cX10_itemNamed 4 (some .int) ∈ z_G := ⟨z_G_in (i := 1405) (by decide +kernel) (by decide +kernel), z_G_in (i := 62) (by decide +kernel) (by decide +kernel), ini_X10, cw_X10_itemNamed⟩
theorem yd_X10_itemNamed : (yX10_itemNamed).cls = RX10 ∧ (yX10_itemNamed).cls ≠ "java/lang/invoke/MethodHandle" ∧ (yX10_itemNamed).cls ≠ "java/lang/invoke/VarHandle" ∧ (parseMethodDescriptor (yX10_itemNamed).desc).map (fun d => d.parameters.length) = some 2 := (by decide +kernel)
set_option maxRecDepth 100000 in
theorem cw_X10_readsName : Cond.code yX10_readsName cX10_readsName 1 none ∈ z_G := z_G_in (i := 1402) rfl rfl
theorem yw_X10_readsName : Cond.instanceMethod yX10_readsName ∈ z_G ∧ Cond.selects RX10 yX10_readsName yX10_readsName ∈ z_G ∧ Cond.initialized RX10 ∈ z_G ∧ Cond.code yX10_readsName cX10_readsName 1 none ∈ z_G := ⟨z_G_in (i := 1401) (by decide +kernel) (by decide +kernel), z_G_in (i := 61) (by decide +kernel) (by decide +kernel), ini_X10, cw_X10_readsName⟩
theorem yd_X10_readsName : (yX10_readsName).cls = RX10 ∧ (yX10_readsName).cls ≠ "java/lang/invoke/MethodHandle" ∧ (yX10_readsName).cls ≠ "java/lang/invoke/VarHandle" ∧ (parseMethodDescriptor (yX10_readsName).desc).map (fun d => d.parameters.length) = some 0 := (by decide +kernel)
set_option maxRecDepth 100000 in
theorem cw_X10_readsRef : Cond.code yX10_readsRef cX10_readsRef 2 none ∈ z_G := z_G_in (i := 1419) rfl rfl
theorem yw_X10_readsRef : Cond.instanceMethod yX10_readsRef ∈ z_G ∧ Cond.selects RX10 yX10_readsRef yX10_readsRef ∈ z_G ∧ Cond.initialized RX10 ∈ z_G ∧ Cond.code yX10_readsRef cX10_readsRef 2 none ∈ z_G := ⟨z_G_in (i := 1418) (by decide +kernel) (by decide +kernel), z_G_in (i := 65) (by decide +kernel) (by decide +kernel), ini_X10, cw_X10_readsRef⟩
theorem yd_X10_readsRef : (yX10_readsRef).cls = RX10 ∧ (yX10_readsRef).cls ≠ "java/lang/invoke/MethodHandle" ∧ (yX10_readsRef).cls ≠ "java/lang/invoke/VarHandle" ∧ (parseMethodDescriptor (yX10_readsRef).desc).map (fun d => d.parameters.length) = some 1 := (by decide +kernel)
set_option maxRecDepth 100000 in
theorem cw_X10_readsOp : Cond.code yX10_readsOp cX10_readsOp 2 none ∈ z_G := z_G_in (i := 1414) rfl rfl
theorem yw_X10_readsOp : Cond.instanceMethod yX10_readsOp ∈ z_G ∧ Cond.selects RX10 yX10_readsOp yX10_readsOp ∈ z_G ∧ Cond.initialized RX10 ∈ z_G ∧ Cond.code yX10_readsOp cX10_readsOp 2 none ∈ z_G := ⟨z_G_in (i := 1413) (by decide +kernel) (by decide +kernel), z_G_in (i := 64) (by decide +kernel) (by decide +kernel), ini_X10, cw_X10_readsOp⟩
theorem yd_X10_readsOp : (yX10_readsOp).cls = RX10 ∧ (yX10_readsOp).cls ≠ "java/lang/invoke/MethodHandle" ∧ (yX10_readsOp).cls ≠ "java/lang/invoke/VarHandle" ∧ (parseMethodDescriptor (yX10_readsOp).desc).map (fun d => d.parameters.length) = some 0 := (by decide +kernel)
set_option maxRecDepth 100000 in
theorem cw_X10_readsItem : Cond.code yX10_readsItem cX10_readsItem 5 none ∈ z_G := z_G_in (i := 1398) rfl rfl
theorem yw_X10_readsItem : Cond.instanceMethod yX10_readsItem ∈ z_G ∧ Cond.selects RX10 yX10_readsItem yX10_readsItem ∈ z_G ∧ Cond.initialized RX10 ∈ z_G ∧ Cond.code yX10_readsItem cX10_readsItem 5 none ∈ z_G := ⟨z_G_in (i := 1397) (by decide +kernel) (by decide +kernel), z_G_in (i := 60) (by decide +kernel) (by decide +kernel), ini_X10, cw_X10_readsItem⟩
theorem yd_X10_readsItem : (yX10_readsItem).cls = RX10 ∧ (yX10_readsItem).cls ≠ "java/lang/invoke/MethodHandle" ∧ (yX10_readsItem).cls ≠ "java/lang/invoke/VarHandle" ∧ (parseMethodDescriptor (yX10_readsItem).desc).map (fun d => d.parameters.length) = some 0 := (by decide +kernel)
set_option maxRecDepth 100000 in
theorem cw_X10_many : Cond.code yX10_many cX10_many 1 (some .int) ∈ z_G := z_G_in (i := 1427) rfl rfl
theorem yw_X10_many : Cond.instanceMethod yX10_many ∈ z_G ∧ Cond.selects RX10 yX10_many yX10_many ∈ z_G ∧ Cond.initialized RX10 ∈ z_G ∧ Cond.code yX10_many cX10_many 1 (some .int) ∈ z_G := ⟨z_G_in (i := 1426) (by decide +kernel) (by decide +kernel), z_G_in (i := 67) (by decide +kernel) (by decide +kernel), ini_X10, cw_X10_many⟩
theorem yd_X10_many : (yX10_many).cls = RX10 ∧ (yX10_many).cls ≠ "java/lang/invoke/MethodHandle" ∧ (yX10_many).cls ≠ "java/lang/invoke/VarHandle" ∧ (parseMethodDescriptor (yX10_many).desc).map (fun d => d.parameters.length) = some 0 := (by decide +kernel)
set_option maxRecDepth 100000 in
theorem cw_X10_fixedAt : Cond.code yX10_fixedAt cX10_fixedAt 3 (some .int) ∈ z_G := z_G_in (i := 1431) rfl rfl
theorem yw_X10_fixedAt : Cond.instanceMethod yX10_fixedAt ∈ z_G ∧ Cond.selects RX10 yX10_fixedAt yX10_fixedAt ∈ z_G ∧ Cond.initialized RX10 ∈ z_G ∧ Cond.code yX10_fixedAt cX10_fixedAt 3 (some .int) ∈ z_G := ⟨z_G_in (i := 1430) (by decide +kernel) (by decide +kernel), z_G_in (i := 68) (by decide +kernel) (by decide +kernel), ini_X10, cw_X10_fixedAt⟩
theorem yd_X10_fixedAt : (yX10_fixedAt).cls = RX10 ∧ (yX10_fixedAt).cls ≠ "java/lang/invoke/MethodHandle" ∧ (yX10_fixedAt).cls ≠ "java/lang/invoke/VarHandle" ∧ (parseMethodDescriptor (yX10_fixedAt).desc).map (fun d => d.parameters.length) = some 1 := (by decide +kernel)
set_option maxRecDepth 100000 in
theorem cw_X10_resolves : Cond.code yX10_resolves cX10_resolves 7 none ∈ z_G := z_G_in (i := 1435) rfl rfl
theorem yw_X10_resolves : Cond.instanceMethod yX10_resolves ∈ z_G ∧ Cond.selects RX10 yX10_resolves yX10_resolves ∈ z_G ∧ Cond.initialized RX10 ∈ z_G ∧ Cond.code yX10_resolves cX10_resolves 7 none ∈ z_G := ⟨z_G_in (i := 1434) (by decide +kernel) (by decide +kernel), z_G_in (i := 69) (by decide +kernel) (by decide +kernel), ini_X10, cw_X10_resolves⟩
theorem yd_X10_resolves : (yX10_resolves).cls = RX10 ∧ (yX10_resolves).cls ≠ "java/lang/invoke/MethodHandle" ∧ (yX10_resolves).cls ≠ "java/lang/invoke/VarHandle" ∧ (parseMethodDescriptor (yX10_resolves).desc).map (fun d => d.parameters.length) = some 0 := (by decide +kernel)
set_option maxRecDepth 100000 in
theorem cw_X10_drum : Cond.code yX10_drum cX10_drum 2 (some .int) ∈ z_G := z_G_in (i := 1344) rfl rfl
theorem yw_X10_drum : Cond.instanceMethod yX10_drum ∈ z_G ∧ Cond.selects RX10 yX10_drum yX10_drum ∈ z_G ∧ Cond.initialized RX10 ∈ z_G ∧ Cond.code yX10_drum cX10_drum 2 (some .int) ∈ z_G := ⟨z_G_in (i := 1342) (by decide +kernel) (by decide +kernel), z_G_in (i := 1343) (by decide +kernel) (by decide +kernel), ini_X10, cw_X10_drum⟩
theorem yd_X10_drum : (yX10_drum).cls = RX10 ∧ (yX10_drum).cls ≠ "java/lang/invoke/MethodHandle" ∧ (yX10_drum).cls ≠ "java/lang/invoke/VarHandle" ∧ (parseMethodDescriptor (yX10_drum).desc).map (fun d => d.parameters.length) = some 0 := (by decide +kernel)
set_option maxRecDepth 100000 in
theorem cw_X10_wordsOf : Cond.code yX10_wordsOf cX10_wordsOf 3 (some .int) ∈ z_G := z_G_in (i := 1439) rfl rfl
theorem yw_X10_wordsOf : Cond.instanceMethod yX10_wordsOf ∈ z_G ∧ Cond.selects RX10 yX10_wordsOf yX10_wordsOf ∈ z_G ∧ Cond.initialized RX10 ∈ z_G ∧ Cond.code yX10_wordsOf cX10_wordsOf 3 (some .int) ∈ z_G := ⟨z_G_in (i := 1438) (by decide +kernel) (by decide +kernel), z_G_in (i := 70) (by decide +kernel) (by decide +kernel), ini_X10, cw_X10_wordsOf⟩
theorem yd_X10_wordsOf : (yX10_wordsOf).cls = RX10 ∧ (yX10_wordsOf).cls ≠ "java/lang/invoke/MethodHandle" ∧ (yX10_wordsOf).cls ≠ "java/lang/invoke/VarHandle" ∧ (parseMethodDescriptor (yX10_wordsOf).desc).map (fun d => d.parameters.length) = some 0 := (by decide +kernel)
set_option maxRecDepth 100000 in
theorem cw_X10_fault : Cond.code yX10_fault cX10_fault 2 (some .int) ∈ z_G := z_G_in (i := 1537) rfl rfl
theorem yw_X10_fault : Cond.instanceMethod yX10_fault ∈ z_G ∧ Cond.selects RX10 yX10_fault yX10_fault ∈ z_G ∧ Cond.initialized RX10 ∈ z_G ∧ Cond.code yX10_fault cX10_fault 2 (some .int) ∈ z_G := ⟨z_G_in (i := 1535) (by decide +kernel) (by decide +kernel), z_G_in (i := 1536) (by decide +kernel) (by decide +kernel), ini_X10, cw_X10_fault⟩
theorem yd_X10_fault : (yX10_fault).cls = RX10 ∧ (yX10_fault).cls ≠ "java/lang/invoke/MethodHandle" ∧ (yX10_fault).cls ≠ "java/lang/invoke/VarHandle" ∧ (parseMethodDescriptor (yX10_fault).desc).map (fun d => d.parameters.length) = some 1 := (by decide +kernel)
set_option maxRecDepth 100000 in
theorem cw_X10_freeItems : Cond.code yX10_freeItems cX10_freeItems 3 (some .int) ∈ z_G := z_G_in (i := 1545) rfl rfl
theorem yw_X10_freeItems : Cond.instanceMethod yX10_freeItems ∈ z_G ∧ Cond.selects RX10 yX10_freeItems yX10_freeItems ∈ z_G ∧ Cond.initialized RX10 ∈ z_G ∧ Cond.code yX10_freeItems cX10_freeItems 3 (some .int) ∈ z_G := ⟨z_G_in (i := 1544) (by decide +kernel) (by decide +kernel), z_G_in (i := 93) (by decide +kernel) (by decide +kernel), ini_X10, cw_X10_freeItems⟩
theorem yd_X10_freeItems : (yX10_freeItems).cls = RX10 ∧ (yX10_freeItems).cls ≠ "java/lang/invoke/MethodHandle" ∧ (yX10_freeItems).cls ≠ "java/lang/invoke/VarHandle" ∧ (parseMethodDescriptor (yX10_freeItems).desc).map (fun d => d.parameters.length) = some 0 := (by decide +kernel)
set_option maxRecDepth 100000 in
theorem cw_X10_count : Cond.code yX10_count cX10_count 2 (some .int) ∈ z_G := z_G_in (i := 1541) rfl rfl
theorem yw_X10_count : Cond.instanceMethod yX10_count ∈ z_G ∧ Cond.selects RX10 yX10_count yX10_count ∈ z_G ∧ Cond.initialized RX10 ∈ z_G ∧ Cond.code yX10_count cX10_count 2 (some .int) ∈ z_G := ⟨z_G_in (i := 1539) (by decide +kernel) (by decide +kernel), z_G_in (i := 1540) (by decide +kernel) (by decide +kernel), ini_X10, cw_X10_count⟩
theorem yd_X10_count : (yX10_count).cls = RX10 ∧ (yX10_count).cls ≠ "java/lang/invoke/MethodHandle" ∧ (yX10_count).cls ≠ "java/lang/invoke/VarHandle" ∧ (parseMethodDescriptor (yX10_count).desc).map (fun d => d.parameters.length) = some 1 := (by decide +kernel)
set_option maxRecDepth 100000 in
theorem cw_X10_isItem : Cond.code yX10_isItem cX10_isItem 2 (some .boolean) ∈ z_G := z_G_in (i := 1553) rfl rfl
theorem yw_X10_isItem : Cond.instanceMethod yX10_isItem ∈ z_G ∧ Cond.selects RX10 yX10_isItem yX10_isItem ∈ z_G ∧ Cond.initialized RX10 ∈ z_G ∧ Cond.code yX10_isItem cX10_isItem 2 (some .boolean) ∈ z_G := ⟨z_G_in (i := 1552) (by decide +kernel) (by decide +kernel), z_G_in (i := 94) (by decide +kernel) (by decide +kernel), ini_X10, cw_X10_isItem⟩
theorem yd_X10_isItem : (yX10_isItem).cls = RX10 ∧ (yX10_isItem).cls ≠ "java/lang/invoke/MethodHandle" ∧ (yX10_isItem).cls ≠ "java/lang/invoke/VarHandle" ∧ (parseMethodDescriptor (yX10_isItem).desc).map (fun d => d.parameters.length) = some 1 := (by decide +kernel)
set_option maxRecDepth 100000 in
theorem cw_X10_item : Cond.code yX10_item cX10_item 3 (some .int) ∈ z_G := z_G_in (i := 1549) rfl rfl
theorem yw_X10_item : Cond.instanceMethod yX10_item ∈ z_G ∧ Cond.selects RX10 yX10_item yX10_item ∈ z_G ∧ Cond.initialized RX10 ∈ z_G ∧ Cond.code yX10_item cX10_item 3 (some .int) ∈ z_G := ⟨z_G_in (i := 1547) (by decide +kernel) (by decide +kernel), z_G_in (i := 1548) (by decide +kernel) (by decide +kernel), ini_X10, cw_X10_item⟩
theorem yd_X10_item : (yX10_item).cls = RX10 ∧ (yX10_item).cls ≠ "java/lang/invoke/MethodHandle" ∧ (yX10_item).cls ≠ "java/lang/invoke/VarHandle" ∧ (parseMethodDescriptor (yX10_item).desc).map (fun d => d.parameters.length) = some 2 := (by decide +kernel)
set_option maxRecDepth 100000 in
theorem cw_X10_itemAt : Cond.code yX10_itemAt cX10_itemAt 3 (some .int) ∈ z_G := z_G_in (i := 1561) rfl rfl
theorem yw_X10_itemAt : Cond.instanceMethod yX10_itemAt ∈ z_G ∧ Cond.selects RX10 yX10_itemAt yX10_itemAt ∈ z_G ∧ Cond.initialized RX10 ∈ z_G ∧ Cond.code yX10_itemAt cX10_itemAt 3 (some .int) ∈ z_G := ⟨z_G_in (i := 1560) (by decide +kernel) (by decide +kernel), z_G_in (i := 95) (by decide +kernel) (by decide +kernel), ini_X10, cw_X10_itemAt⟩
theorem yd_X10_itemAt : (yX10_itemAt).cls = RX10 ∧ (yX10_itemAt).cls ≠ "java/lang/invoke/MethodHandle" ∧ (yX10_itemAt).cls ≠ "java/lang/invoke/VarHandle" ∧ (parseMethodDescriptor (yX10_itemAt).desc).map (fun d => d.parameters.length) = some 1 := (by decide +kernel)
set_option maxRecDepth 100000 in
theorem cw_X10_at : Cond.code yX10_at cX10_at 2 (some .int) ∈ z_G := z_G_in (i := 1557) rfl rfl
theorem yw_X10_at : Cond.instanceMethod yX10_at ∈ z_G ∧ Cond.selects RX10 yX10_at yX10_at ∈ z_G ∧ Cond.initialized RX10 ∈ z_G ∧ Cond.code yX10_at cX10_at 2 (some .int) ∈ z_G := ⟨z_G_in (i := 1555) (by decide +kernel) (by decide +kernel), z_G_in (i := 1556) (by decide +kernel) (by decide +kernel), ini_X10, cw_X10_at⟩
theorem yd_X10_at : (yX10_at).cls = RX10 ∧ (yX10_at).cls ≠ "java/lang/invoke/MethodHandle" ∧ (yX10_at).cls ≠ "java/lang/invoke/VarHandle" ∧ (parseMethodDescriptor (yX10_at).desc).map (fun d => d.parameters.length) = some 1 := (by decide +kernel)
set_option maxRecDepth 100000 in
theorem cw_X10_rounded : Cond.code yX10_rounded cX10_rounded 1 (some .int) ∈ z_G := z_G_in (i := 1474) rfl rfl
theorem yw_X10_rounded : Cond.static yX10_rounded ∈ z_G ∧ Cond.initialized (yX10_rounded).cls ∈ z_G ∧ Cond.code yX10_rounded cX10_rounded 1 (some .int) ∈ z_G := ⟨z_G_in (i := 1473) (by decide +kernel) (by decide +kernel), ini_X10, cw_X10_rounded⟩
theorem yd_X10_rounded : (yX10_rounded).cls ≠ "java/lang/invoke/MethodHandle" ∧ (yX10_rounded).cls ≠ "java/lang/invoke/VarHandle" ∧ (parseMethodDescriptor (yX10_rounded).desc).map (fun d => d.parameters.length) = some 1 := (by decide +kernel)
set_option maxRecDepth 100000 in
theorem cw_X10_reading : Cond.code yX10_reading cX10_reading 3 none ∈ z_G := z_G_in (i := 1467) rfl rfl
theorem yw_X10_reading : Cond.instanceMethod yX10_reading ∈ z_G ∧ Cond.selects RX10 yX10_reading yX10_reading ∈ z_G ∧ Cond.initialized RX10 ∈ z_G ∧ Cond.code yX10_reading cX10_reading 3 none ∈ z_G := ⟨z_G_in (i := 1466) (by decide +kernel) (by decide +kernel), z_G_in (i := 77) (by decide +kernel) (by decide +kernel), ini_X10, cw_X10_reading⟩
theorem yd_X10_reading : (yX10_reading).cls = RX10 ∧ (yX10_reading).cls ≠ "java/lang/invoke/MethodHandle" ∧ (yX10_reading).cls ≠ "java/lang/invoke/VarHandle" ∧ (parseMethodDescriptor (yX10_reading).desc).map (fun d => d.parameters.length) = some 2 := (by decide +kernel)
set_option maxRecDepth 100000 in
theorem cw_X10_hasRun : Cond.code yX10_hasRun cX10_hasRun 1 (some .boolean) ∈ z_G := z_G_in (i := 1451) rfl rfl
theorem yw_X10_hasRun : Cond.instanceMethod yX10_hasRun ∈ z_G ∧ Cond.selects RX10 yX10_hasRun yX10_hasRun ∈ z_G ∧ Cond.initialized RX10 ∈ z_G ∧ Cond.code yX10_hasRun cX10_hasRun 1 (some .boolean) ∈ z_G := ⟨z_G_in (i := 1450) (by decide +kernel) (by decide +kernel), z_G_in (i := 73) (by decide +kernel) (by decide +kernel), ini_X10, cw_X10_hasRun⟩
theorem yd_X10_hasRun : (yX10_hasRun).cls = RX10 ∧ (yX10_hasRun).cls ≠ "java/lang/invoke/MethodHandle" ∧ (yX10_hasRun).cls ≠ "java/lang/invoke/VarHandle" ∧ (parseMethodDescriptor (yX10_hasRun).desc).map (fun d => d.parameters.length) = some 0 := (by decide +kernel)
set_option maxRecDepth 100000 in
theorem cw_X10_runs : Cond.code yX10_runs cX10_runs 4 none ∈ z_G := z_G_in (i := 1463) rfl rfl
theorem yw_X10_runs : Cond.instanceMethod yX10_runs ∈ z_G ∧ Cond.selects RX10 yX10_runs yX10_runs ∈ z_G ∧ Cond.initialized RX10 ∈ z_G ∧ Cond.code yX10_runs cX10_runs 4 none ∈ z_G := ⟨z_G_in (i := 1462) (by decide +kernel) (by decide +kernel), z_G_in (i := 76) (by decide +kernel) (by decide +kernel), ini_X10, cw_X10_runs⟩
theorem yd_X10_runs : (yX10_runs).cls = RX10 ∧ (yX10_runs).cls ≠ "java/lang/invoke/MethodHandle" ∧ (yX10_runs).cls ≠ "java/lang/invoke/VarHandle" ∧ (parseMethodDescriptor (yX10_runs).desc).map (fun d => d.parameters.length) = some 0 := (by decide +kernel)
set_option maxRecDepth 100000 in
theorem cw_X10_goes : Cond.code yX10_goes cX10_goes 4 none ∈ z_G := z_G_in (i := 1471) rfl rfl
theorem yw_X10_goes : Cond.instanceMethod yX10_goes ∈ z_G ∧ Cond.selects RX10 yX10_goes yX10_goes ∈ z_G ∧ Cond.initialized RX10 ∈ z_G ∧ Cond.code yX10_goes cX10_goes 4 none ∈ z_G := ⟨z_G_in (i := 1470) (by decide +kernel) (by decide +kernel), z_G_in (i := 78) (by decide +kernel) (by decide +kernel), ini_X10, cw_X10_goes⟩
theorem yd_X10_goes : (yX10_goes).cls = RX10 ∧ (yX10_goes).cls ≠ "java/lang/invoke/MethodHandle" ∧ (yX10_goes).cls ≠ "java/lang/invoke/VarHandle" ∧ (parseMethodDescriptor (yX10_goes).desc).map (fun d => d.parameters.length) = some 2 := (by decide +kernel)
set_option maxRecDepth 100000 in
theorem cw_X10_wordBehind : Cond.code yX10_wordBehind cX10_wordBehind 5 (some .int) ∈ z_G := z_G_in (i := 1479) rfl rfl
theorem yw_X10_wordBehind : Cond.instanceMethod yX10_wordBehind ∈ z_G ∧ Cond.selects RX10 yX10_wordBehind yX10_wordBehind ∈ z_G ∧ Cond.initialized RX10 ∈ z_G ∧ Cond.code yX10_wordBehind cX10_wordBehind 5 (some .int) ∈ z_G := ⟨z_G_in (i := 1478) (by decide +kernel) (by decide +kernel), z_G_in (i := 79) (by decide +kernel) (by decide +kernel), ini_X10, cw_X10_wordBehind⟩
theorem yd_X10_wordBehind : (yX10_wordBehind).cls = RX10 ∧ (yX10_wordBehind).cls ≠ "java/lang/invoke/MethodHandle" ∧ (yX10_wordBehind).cls ≠ "java/lang/invoke/VarHandle" ∧ (parseMethodDescriptor (yX10_wordBehind).desc).map (fun d => d.parameters.length) = some 2 := (by decide +kernel)
set_option maxRecDepth 100000 in
theorem cw_X10_takes : Cond.code yX10_takes cX10_takes 2 none ∈ z_G := z_G_in (i := 1459) rfl rfl
theorem yw_X10_takes : Cond.instanceMethod yX10_takes ∈ z_G ∧ Cond.selects RX10 yX10_takes yX10_takes ∈ z_G ∧ Cond.initialized RX10 ∈ z_G ∧ Cond.code yX10_takes cX10_takes 2 none ∈ z_G := ⟨z_G_in (i := 1458) (by decide +kernel) (by decide +kernel), z_G_in (i := 75) (by decide +kernel) (by decide +kernel), ini_X10, cw_X10_takes⟩
theorem yd_X10_takes : (yX10_takes).cls = RX10 ∧ (yX10_takes).cls ≠ "java/lang/invoke/MethodHandle" ∧ (yX10_takes).cls ≠ "java/lang/invoke/VarHandle" ∧ (parseMethodDescriptor (yX10_takes).desc).map (fun d => d.parameters.length) = some 0 := (by decide +kernel)
set_option maxRecDepth 100000 in
theorem cw_X10_whenAt : Cond.code yX10_whenAt cX10_whenAt 5 (some .int) ∈ z_G := z_G_in (i := 1491) rfl rfl
theorem yw_X10_whenAt : Cond.instanceMethod yX10_whenAt ∈ z_G ∧ Cond.selects RX10 yX10_whenAt yX10_whenAt ∈ z_G ∧ Cond.initialized RX10 ∈ z_G ∧ Cond.code yX10_whenAt cX10_whenAt 5 (some .int) ∈ z_G := ⟨z_G_in (i := 1490) (by decide +kernel) (by decide +kernel), z_G_in (i := 82) (by decide +kernel) (by decide +kernel), ini_X10, cw_X10_whenAt⟩
theorem yd_X10_whenAt : (yX10_whenAt).cls = RX10 ∧ (yX10_whenAt).cls ≠ "java/lang/invoke/MethodHandle" ∧ (yX10_whenAt).cls ≠ "java/lang/invoke/VarHandle" ∧ (parseMethodDescriptor (yX10_whenAt).desc).map (fun d => d.parameters.length) = some 2 := (by decide +kernel)
set_option maxRecDepth 100000 in
theorem cw_X10_waited : Cond.code yX10_waited cX10_waited 2 (some .int) ∈ z_G := z_G_in (i := 1483) rfl rfl
theorem yw_X10_waited : Cond.instanceMethod yX10_waited ∈ z_G ∧ Cond.selects RX10 yX10_waited yX10_waited ∈ z_G ∧ Cond.initialized RX10 ∈ z_G ∧ Cond.code yX10_waited cX10_waited 2 (some .int) ∈ z_G := ⟨z_G_in (i := 1482) (by decide +kernel) (by decide +kernel), z_G_in (i := 80) (by decide +kernel) (by decide +kernel), ini_X10, cw_X10_waited⟩
theorem yd_X10_waited : (yX10_waited).cls = RX10 ∧ (yX10_waited).cls ≠ "java/lang/invoke/MethodHandle" ∧ (yX10_waited).cls ≠ "java/lang/invoke/VarHandle" ∧ (parseMethodDescriptor (yX10_waited).desc).map (fun d => d.parameters.length) = some 1 := (by decide +kernel)
set_option maxRecDepth 100000 in
theorem cw_X10_timed : Cond.code yX10_timed cX10_timed 3 (some .int) ∈ z_G := z_G_in (i := 1516) rfl rfl
theorem yw_X10_timed : Cond.instanceMethod yX10_timed ∈ z_G ∧ Cond.selects RX10 yX10_timed yX10_timed ∈ z_G ∧ Cond.initialized RX10 ∈ z_G ∧ Cond.code yX10_timed cX10_timed 3 (some .int) ∈ z_G := ⟨z_G_in (i := 1515) (by decide +kernel) (by decide +kernel), z_G_in (i := 88) (by decide +kernel) (by decide +kernel), ini_X10, cw_X10_timed⟩
theorem yd_X10_timed : (yX10_timed).cls = RX10 ∧ (yX10_timed).cls ≠ "java/lang/invoke/MethodHandle" ∧ (yX10_timed).cls ≠ "java/lang/invoke/VarHandle" ∧ (parseMethodDescriptor (yX10_timed).desc).map (fun d => d.parameters.length) = some 0 := (by decide +kernel)
set_option maxRecDepth 100000 in
theorem cw_X10_timeNow : Cond.code yX10_timeNow cX10_timeNow 1 (some .int) ∈ z_G := z_G_in (i := 1586) rfl rfl
theorem yw_X10_timeNow : Cond.instanceMethod yX10_timeNow ∈ z_G ∧ Cond.selects RX10 yX10_timeNow yX10_timeNow ∈ z_G ∧ Cond.initialized RX10 ∈ z_G ∧ Cond.code yX10_timeNow cX10_timeNow 1 (some .int) ∈ z_G := ⟨z_G_in (i := 1585) (by decide +kernel) (by decide +kernel), z_G_in (i := 96) (by decide +kernel) (by decide +kernel), ini_X10, cw_X10_timeNow⟩
theorem yd_X10_timeNow : (yX10_timeNow).cls = RX10 ∧ (yX10_timeNow).cls ≠ "java/lang/invoke/MethodHandle" ∧ (yX10_timeNow).cls ≠ "java/lang/invoke/VarHandle" ∧ (parseMethodDescriptor (yX10_timeNow).desc).map (fun d => d.parameters.length) = some 0 := (by decide +kernel)
set_option maxRecDepth 100000 in
theorem cw_X10_lostAt : Cond.code yX10_lostAt cX10_lostAt 2 (some .int) ∈ z_G := z_G_in (i := 1606) rfl rfl
theorem yw_X10_lostAt : Cond.instanceMethod yX10_lostAt ∈ z_G ∧ Cond.selects RX10 yX10_lostAt yX10_lostAt ∈ z_G ∧ Cond.initialized RX10 ∈ z_G ∧ Cond.code yX10_lostAt cX10_lostAt 2 (some .int) ∈ z_G := ⟨z_G_in (i := 1605) (by decide +kernel) (by decide +kernel), z_G_in (i := 98) (by decide +kernel) (by decide +kernel), ini_X10, cw_X10_lostAt⟩
theorem yd_X10_lostAt : (yX10_lostAt).cls = RX10 ∧ (yX10_lostAt).cls ≠ "java/lang/invoke/MethodHandle" ∧ (yX10_lostAt).cls ≠ "java/lang/invoke/VarHandle" ∧ (parseMethodDescriptor (yX10_lostAt).desc).map (fun d => d.parameters.length) = some 1 := (by decide +kernel)
set_option maxRecDepth 100000 in
theorem cw_X10_steps : Cond.code yX10_steps cX10_steps 1 (some .int) ∈ z_G := z_G_in (i := 1565) rfl rfl
theorem yw_X10_steps : Cond.instanceMethod yX10_steps ∈ z_G ∧ Cond.selects RX10 yX10_steps yX10_steps ∈ z_G ∧ Cond.initialized RX10 ∈ z_G ∧ Cond.code yX10_steps cX10_steps 1 (some .int) ∈ z_G := ⟨z_G_in (i := 1563) (by decide +kernel) (by decide +kernel), z_G_in (i := 1564) (by decide +kernel) (by decide +kernel), ini_X10, cw_X10_steps⟩
theorem yd_X10_steps : (yX10_steps).cls = RX10 ∧ (yX10_steps).cls ≠ "java/lang/invoke/MethodHandle" ∧ (yX10_steps).cls ≠ "java/lang/invoke/VarHandle" ∧ (parseMethodDescriptor (yX10_steps).desc).map (fun d => d.parameters.length) = some 0 := (by decide +kernel)
set_option maxRecDepth 100000 in
theorem cw_X10_why : Cond.code yX10_why cX10_why 1 (some .int) ∈ z_G := z_G_in (i := 1569) rfl rfl
theorem yw_X10_why : Cond.instanceMethod yX10_why ∈ z_G ∧ Cond.selects RX10 yX10_why yX10_why ∈ z_G ∧ Cond.initialized RX10 ∈ z_G ∧ Cond.code yX10_why cX10_why 1 (some .int) ∈ z_G := ⟨z_G_in (i := 1567) (by decide +kernel) (by decide +kernel), z_G_in (i := 1568) (by decide +kernel) (by decide +kernel), ini_X10, cw_X10_why⟩
theorem yd_X10_why : (yX10_why).cls = RX10 ∧ (yX10_why).cls ≠ "java/lang/invoke/MethodHandle" ∧ (yX10_why).cls ≠ "java/lang/invoke/VarHandle" ∧ (parseMethodDescriptor (yX10_why).desc).map (fun d => d.parameters.length) = some 0 := (by decide +kernel)
set_option maxRecDepth 100000 in
theorem cw_X10_acc : Cond.code yX10_acc cX10_acc 1 (some .int) ∈ z_G := z_G_in (i := 1573) rfl rfl
theorem yw_X10_acc : Cond.instanceMethod yX10_acc ∈ z_G ∧ Cond.selects RX10 yX10_acc yX10_acc ∈ z_G ∧ Cond.initialized RX10 ∈ z_G ∧ Cond.code yX10_acc cX10_acc 1 (some .int) ∈ z_G := ⟨z_G_in (i := 1571) (by decide +kernel) (by decide +kernel), z_G_in (i := 1572) (by decide +kernel) (by decide +kernel), ini_X10, cw_X10_acc⟩
theorem yd_X10_acc : (yX10_acc).cls = RX10 ∧ (yX10_acc).cls ≠ "java/lang/invoke/MethodHandle" ∧ (yX10_acc).cls ≠ "java/lang/invoke/VarHandle" ∧ (parseMethodDescriptor (yX10_acc).desc).map (fun d => d.parameters.length) = some 0 := (by decide +kernel)
set_option maxRecDepth 100000 in
theorem cw_X10_value : Cond.code yX10_value cX10_value 2 (some .int) ∈ z_G := z_G_in (i := 1577) rfl rfl
theorem yw_X10_value : Cond.instanceMethod yX10_value ∈ z_G ∧ Cond.selects RX10 yX10_value yX10_value ∈ z_G ∧ Cond.initialized RX10 ∈ z_G ∧ Cond.code yX10_value cX10_value 2 (some .int) ∈ z_G := ⟨z_G_in (i := 1575) (by decide +kernel) (by decide +kernel), z_G_in (i := 1576) (by decide +kernel) (by decide +kernel), ini_X10, cw_X10_value⟩
theorem yd_X10_value : (yX10_value).cls = RX10 ∧ (yX10_value).cls ≠ "java/lang/invoke/MethodHandle" ∧ (yX10_value).cls ≠ "java/lang/invoke/VarHandle" ∧ (parseMethodDescriptor (yX10_value).desc).map (fun d => d.parameters.length) = some 1 := (by decide +kernel)
set_option maxRecDepth 100000 in
theorem cw_X10_done : Cond.code yX10_done cX10_done 4 (some .int) ∈ z_G := z_G_in (i := 1581) rfl rfl
theorem yw_X10_done : Cond.instanceMethod yX10_done ∈ z_G ∧ Cond.selects RX10 yX10_done yX10_done ∈ z_G ∧ Cond.initialized RX10 ∈ z_G ∧ Cond.code yX10_done cX10_done 4 (some .int) ∈ z_G := ⟨z_G_in (i := 1579) (by decide +kernel) (by decide +kernel), z_G_in (i := 1580) (by decide +kernel) (by decide +kernel), ini_X10, cw_X10_done⟩
theorem yd_X10_done : (yX10_done).cls = RX10 ∧ (yX10_done).cls ≠ "java/lang/invoke/MethodHandle" ∧ (yX10_done).cls ≠ "java/lang/invoke/VarHandle" ∧ (parseMethodDescriptor (yX10_done).desc).map (fun d => d.parameters.length) = some 2 := (by decide +kernel)
set_option maxRecDepth 100000 in
theorem cw_X10_time : Cond.code yX10_time cX10_time 1 (some .int) ∈ z_G := z_G_in (i := 1590) rfl rfl
theorem yw_X10_time : Cond.instanceMethod yX10_time ∈ z_G ∧ Cond.selects RX10 yX10_time yX10_time ∈ z_G ∧ Cond.initialized RX10 ∈ z_G ∧ Cond.code yX10_time cX10_time 1 (some .int) ∈ z_G := ⟨z_G_in (i := 1588) (by decide +kernel) (by decide +kernel), z_G_in (i := 1589) (by decide +kernel) (by decide +kernel), ini_X10, cw_X10_time⟩
theorem yd_X10_time : (yX10_time).cls = RX10 ∧ (yX10_time).cls ≠ "java/lang/invoke/MethodHandle" ∧ (yX10_time).cls ≠ "java/lang/invoke/VarHandle" ∧ (parseMethodDescriptor (yX10_time).desc).map (fun d => d.parameters.length) = some 0 := (by decide +kernel)
set_option maxRecDepth 100000 in
theorem cw_X10_rounds : Cond.code yX10_rounds cX10_rounds 1 (some .int) ∈ z_G := z_G_in (i := 1594) rfl rfl
theorem yw_X10_rounds : Cond.instanceMethod yX10_rounds ∈ z_G ∧ Cond.selects RX10 yX10_rounds yX10_rounds ∈ z_G ∧ Cond.initialized RX10 ∈ z_G ∧ Cond.code yX10_rounds cX10_rounds 1 (some .int) ∈ z_G := ⟨z_G_in (i := 1592) (by decide +kernel) (by decide +kernel), z_G_in (i := 1593) (by decide +kernel) (by decide +kernel), ini_X10, cw_X10_rounds⟩
theorem yd_X10_rounds : (yX10_rounds).cls = RX10 ∧ (yX10_rounds).cls ≠ "java/lang/invoke/MethodHandle" ∧ (yX10_rounds).cls ≠ "java/lang/invoke/VarHandle" ∧ (parseMethodDescriptor (yX10_rounds).desc).map (fun d => d.parameters.length) = some 0 := (by decide +kernel)
set_option maxRecDepth 100000 in
theorem cw_X10_lostOf : Cond.code yX10_lostOf cX10_lostOf 4 (some .int) ∈ z_G := z_G_in (i := 1602) rfl rfl
theorem yw_X10_lostOf : Cond.instanceMethod yX10_lostOf ∈ z_G ∧ Cond.selects RX10 yX10_lostOf yX10_lostOf ∈ z_G ∧ Cond.initialized RX10 ∈ z_G ∧ Cond.code yX10_lostOf cX10_lostOf 4 (some .int) ∈ z_G := ⟨z_G_in (i := 1601) (by decide +kernel) (by decide +kernel), z_G_in (i := 97) (by decide +kernel) (by decide +kernel), ini_X10, cw_X10_lostOf⟩
theorem yd_X10_lostOf : (yX10_lostOf).cls = RX10 ∧ (yX10_lostOf).cls ≠ "java/lang/invoke/MethodHandle" ∧ (yX10_lostOf).cls ≠ "java/lang/invoke/VarHandle" ∧ (parseMethodDescriptor (yX10_lostOf).desc).map (fun d => d.parameters.length) = some 1 := (by decide +kernel)
set_option maxRecDepth 100000 in
theorem cw_X10_lost : Cond.code yX10_lost cX10_lost 2 (some .int) ∈ z_G := z_G_in (i := 1598) rfl rfl
theorem yw_X10_lost : Cond.instanceMethod yX10_lost ∈ z_G ∧ Cond.selects RX10 yX10_lost yX10_lost ∈ z_G ∧ Cond.initialized RX10 ∈ z_G ∧ Cond.code yX10_lost cX10_lost 2 (some .int) ∈ z_G := ⟨z_G_in (i := 1596) (by decide +kernel) (by decide +kernel), z_G_in (i := 1597) (by decide +kernel) (by decide +kernel), ini_X10, cw_X10_lost⟩
theorem yd_X10_lost : (yX10_lost).cls = RX10 ∧ (yX10_lost).cls ≠ "java/lang/invoke/MethodHandle" ∧ (yX10_lost).cls ≠ "java/lang/invoke/VarHandle" ∧ (parseMethodDescriptor (yX10_lost).desc).map (fun d => d.parameters.length) = some 0 := (by decide +kernel)
set_option maxRecDepth 100000 in
theorem cw_X10_lostFor : Cond.code yX10_lostFor cX10_lostFor 3 (some .int) ∈ z_G := z_G_in (i := 1610) rfl rfl
theorem yw_X10_lostFor : Cond.instanceMethod yX10_lostFor ∈ z_G ∧ Cond.selects RX10 yX10_lostFor yX10_lostFor ∈ z_G ∧ Cond.initialized RX10 ∈ z_G ∧ Cond.code yX10_lostFor cX10_lostFor 3 (some .int) ∈ z_G := ⟨z_G_in (i := 1608) (by decide +kernel) (by decide +kernel), z_G_in (i := 1609) (by decide +kernel) (by decide +kernel), ini_X10, cw_X10_lostFor⟩
theorem yd_X10_lostFor : (yX10_lostFor).cls = RX10 ∧ (yX10_lostFor).cls ≠ "java/lang/invoke/MethodHandle" ∧ (yX10_lostFor).cls ≠ "java/lang/invoke/VarHandle" ∧ (parseMethodDescriptor (yX10_lostFor).desc).map (fun d => d.parameters.length) = some 1 := (by decide +kernel)
set_option maxRecDepth 100000 in
theorem cw_X10_worst : Cond.code yX10_worst cX10_worst 4 (some .int) ∈ z_G := z_G_in (i := 1614) rfl rfl
theorem yw_X10_worst : Cond.instanceMethod yX10_worst ∈ z_G ∧ Cond.selects RX10 yX10_worst yX10_worst ∈ z_G ∧ Cond.initialized RX10 ∈ z_G ∧ Cond.code yX10_worst cX10_worst 4 (some .int) ∈ z_G := ⟨z_G_in (i := 1612) (by decide +kernel) (by decide +kernel), z_G_in (i := 1613) (by decide +kernel) (by decide +kernel), ini_X10, cw_X10_worst⟩
theorem yd_X10_worst : (yX10_worst).cls = RX10 ∧ (yX10_worst).cls ≠ "java/lang/invoke/MethodHandle" ∧ (yX10_worst).cls ≠ "java/lang/invoke/VarHandle" ∧ (parseMethodDescriptor (yX10_worst).desc).map (fun d => d.parameters.length) = some 0 := (by decide +kernel)
set_option maxRecDepth 100000 in
theorem cw_X10_met : Cond.code yX10_met cX10_met 4 (some .int) ∈ z_G := z_G_in (i := 1618) rfl rfl
theorem yw_X10_met : Cond.instanceMethod yX10_met ∈ z_G ∧ Cond.selects RX10 yX10_met yX10_met ∈ z_G ∧ Cond.initialized RX10 ∈ z_G ∧ Cond.code yX10_met cX10_met 4 (some .int) ∈ z_G := ⟨z_G_in (i := 1616) (by decide +kernel) (by decide +kernel), z_G_in (i := 1617) (by decide +kernel) (by decide +kernel), ini_X10, cw_X10_met⟩
theorem yd_X10_met : (yX10_met).cls = RX10 ∧ (yX10_met).cls ≠ "java/lang/invoke/MethodHandle" ∧ (yX10_met).cls ≠ "java/lang/invoke/VarHandle" ∧ (parseMethodDescriptor (yX10_met).desc).map (fun d => d.parameters.length) = some 1 := (by decide +kernel)
set_option maxRecDepth 100000 in
theorem cw_X10_bound : Cond.code yX10_bound cX10_bound 1 (some .int) ∈ z_G := z_G_in (i := 1622) rfl rfl
theorem yw_X10_bound : Cond.instanceMethod yX10_bound ∈ z_G ∧ Cond.selects RX10 yX10_bound yX10_bound ∈ z_G ∧ Cond.initialized RX10 ∈ z_G ∧ Cond.code yX10_bound cX10_bound 1 (some .int) ∈ z_G := ⟨z_G_in (i := 1620) (by decide +kernel) (by decide +kernel), z_G_in (i := 1621) (by decide +kernel) (by decide +kernel), ini_X10, cw_X10_bound⟩
theorem yd_X10_bound : (yX10_bound).cls = RX10 ∧ (yX10_bound).cls ≠ "java/lang/invoke/MethodHandle" ∧ (yX10_bound).cls ≠ "java/lang/invoke/VarHandle" ∧ (parseMethodDescriptor (yX10_bound).desc).map (fun d => d.parameters.length) = some 0 := (by decide +kernel)
set_option maxRecDepth 100000 in
theorem cw_X10_waiting : Cond.code yX10_waiting cX10_waiting 2 (some .int) ∈ z_G := z_G_in (i := 1626) rfl rfl
theorem yw_X10_waiting : Cond.instanceMethod yX10_waiting ∈ z_G ∧ Cond.selects RX10 yX10_waiting yX10_waiting ∈ z_G ∧ Cond.initialized RX10 ∈ z_G ∧ Cond.code yX10_waiting cX10_waiting 2 (some .int) ∈ z_G := ⟨z_G_in (i := 1624) (by decide +kernel) (by decide +kernel), z_G_in (i := 1625) (by decide +kernel) (by decide +kernel), ini_X10, cw_X10_waiting⟩
theorem yd_X10_waiting : (yX10_waiting).cls = RX10 ∧ (yX10_waiting).cls ≠ "java/lang/invoke/MethodHandle" ∧ (yX10_waiting).cls ≠ "java/lang/invoke/VarHandle" ∧ (parseMethodDescriptor (yX10_waiting).desc).map (fun d => d.parameters.length) = some 1 := (by decide +kernel)
set_option maxRecDepth 100000 in
theorem cw_X10_quicker : Cond.code yX10_quicker cX10_quicker 2 (some .int) ∈ z_G := z_G_in (i := 1631) rfl rfl
theorem yw_X10_quicker : Cond.instanceMethod yX10_quicker ∈ z_G ∧ Cond.selects RX10 yX10_quicker yX10_quicker ∈ z_G ∧ Cond.initialized RX10 ∈ z_G ∧ Cond.code yX10_quicker cX10_quicker 2 (some .int) ∈ z_G := ⟨z_G_in (i := 1629) (by decide +kernel) (by decide +kernel), z_G_in (i := 1630) (by decide +kernel) (by decide +kernel), ini_X10, cw_X10_quicker⟩
theorem yd_X10_quicker : (yX10_quicker).cls = RX10 ∧ (yX10_quicker).cls ≠ "java/lang/invoke/MethodHandle" ∧ (yX10_quicker).cls ≠ "java/lang/invoke/VarHandle" ∧ (parseMethodDescriptor (yX10_quicker).desc).map (fun d => d.parameters.length) = some 1 := (by decide +kernel)
set_option maxRecDepth 100000 in
theorem cw_X10_timeMoved : Cond.code yX10_timeMoved cX10_timeMoved 5 (some .int) ∈ z_G := z_G_in (i := 1643) rfl rfl
theorem yw_X10_timeMoved : Cond.instanceMethod yX10_timeMoved ∈ z_G ∧ Cond.selects RX10 yX10_timeMoved yX10_timeMoved ∈ z_G ∧ Cond.initialized RX10 ∈ z_G ∧ Cond.code yX10_timeMoved cX10_timeMoved 5 (some .int) ∈ z_G := ⟨z_G_in (i := 1642) (by decide +kernel) (by decide +kernel), z_G_in (i := 100) (by decide +kernel) (by decide +kernel), ini_X10, cw_X10_timeMoved⟩
theorem yd_X10_timeMoved : (yX10_timeMoved).cls = RX10 ∧ (yX10_timeMoved).cls ≠ "java/lang/invoke/MethodHandle" ∧ (yX10_timeMoved).cls ≠ "java/lang/invoke/VarHandle" ∧ (parseMethodDescriptor (yX10_timeMoved).desc).map (fun d => d.parameters.length) = some 2 := (by decide +kernel)
set_option maxRecDepth 100000 in
theorem cw_X10_timeSwapped : Cond.code yX10_timeSwapped cX10_timeSwapped 6 (some .int) ∈ z_G := z_G_in (i := 1655) rfl rfl
theorem yw_X10_timeSwapped : Cond.instanceMethod yX10_timeSwapped ∈ z_G ∧ Cond.selects RX10 yX10_timeSwapped yX10_timeSwapped ∈ z_G ∧ Cond.initialized RX10 ∈ z_G ∧ Cond.code yX10_timeSwapped cX10_timeSwapped 6 (some .int) ∈ z_G := ⟨z_G_in (i := 1654) (by decide +kernel) (by decide +kernel), z_G_in (i := 102) (by decide +kernel) (by decide +kernel), ini_X10, cw_X10_timeSwapped⟩
theorem yd_X10_timeSwapped : (yX10_timeSwapped).cls = RX10 ∧ (yX10_timeSwapped).cls ≠ "java/lang/invoke/MethodHandle" ∧ (yX10_timeSwapped).cls ≠ "java/lang/invoke/VarHandle" ∧ (parseMethodDescriptor (yX10_timeSwapped).desc).map (fun d => d.parameters.length) = some 2 := (by decide +kernel)
set_option maxRecDepth 100000 in
theorem cw_X10_isFree : Cond.code yX10_isFree cX10_isFree 2 (some .boolean) ∈ z_G := z_G_in (i := 1503) rfl rfl
theorem yw_X10_isFree : Cond.instanceMethod yX10_isFree ∈ z_G ∧ Cond.selects RX10 yX10_isFree yX10_isFree ∈ z_G ∧ Cond.initialized RX10 ∈ z_G ∧ Cond.code yX10_isFree cX10_isFree 2 (some .boolean) ∈ z_G := ⟨z_G_in (i := 1502) (by decide +kernel) (by decide +kernel), z_G_in (i := 85) (by decide +kernel) (by decide +kernel), ini_X10, cw_X10_isFree⟩
theorem yd_X10_isFree : (yX10_isFree).cls = RX10 ∧ (yX10_isFree).cls ≠ "java/lang/invoke/MethodHandle" ∧ (yX10_isFree).cls ≠ "java/lang/invoke/VarHandle" ∧ (parseMethodDescriptor (yX10_isFree).desc).map (fun d => d.parameters.length) = some 1 := (by decide +kernel)
set_option maxRecDepth 100000 in
theorem cw_X10_whyNot : Cond.code yX10_whyNot cX10_whyNot 3 (some .int) ∈ z_G := z_G_in (i := 1639) rfl rfl
theorem yw_X10_whyNot : Cond.instanceMethod yX10_whyNot ∈ z_G ∧ Cond.selects RX10 yX10_whyNot yX10_whyNot ∈ z_G ∧ Cond.initialized RX10 ∈ z_G ∧ Cond.code yX10_whyNot cX10_whyNot 3 (some .int) ∈ z_G := ⟨z_G_in (i := 1638) (by decide +kernel) (by decide +kernel), z_G_in (i := 99) (by decide +kernel) (by decide +kernel), ini_X10, cw_X10_whyNot⟩
theorem yd_X10_whyNot : (yX10_whyNot).cls = RX10 ∧ (yX10_whyNot).cls ≠ "java/lang/invoke/MethodHandle" ∧ (yX10_whyNot).cls ≠ "java/lang/invoke/VarHandle" ∧ (parseMethodDescriptor (yX10_whyNot).desc).map (fun d => d.parameters.length) = some 2 := (by decide +kernel)
set_option maxRecDepth 100000 in
theorem cw_X10_moved : Cond.code yX10_moved cX10_moved 5 (some .int) ∈ z_G := z_G_in (i := 1635) rfl rfl
theorem yw_X10_moved : Cond.instanceMethod yX10_moved ∈ z_G ∧ Cond.selects RX10 yX10_moved yX10_moved ∈ z_G ∧ Cond.initialized RX10 ∈ z_G ∧ Cond.code yX10_moved cX10_moved 5 (some .int) ∈ z_G := ⟨z_G_in (i := 1633) (by decide +kernel) (by decide +kernel), z_G_in (i := 1634) (by decide +kernel) (by decide +kernel), ini_X10, cw_X10_moved⟩
theorem yd_X10_moved : (yX10_moved).cls = RX10 ∧ (yX10_moved).cls ≠ "java/lang/invoke/MethodHandle" ∧ (yX10_moved).cls ≠ "java/lang/invoke/VarHandle" ∧ (parseMethodDescriptor (yX10_moved).desc).map (fun d => d.parameters.length) = some 2 := (by decide +kernel)
set_option maxRecDepth 100000 in
theorem cw_X10_whyNotBoth : Cond.code yX10_whyNotBoth cX10_whyNotBoth 3 (some .int) ∈ z_G := z_G_in (i := 1651) rfl rfl
theorem yw_X10_whyNotBoth : Cond.instanceMethod yX10_whyNotBoth ∈ z_G ∧ Cond.selects RX10 yX10_whyNotBoth yX10_whyNotBoth ∈ z_G ∧ Cond.initialized RX10 ∈ z_G ∧ Cond.code yX10_whyNotBoth cX10_whyNotBoth 3 (some .int) ∈ z_G := ⟨z_G_in (i := 1650) (by decide +kernel) (by decide +kernel), z_G_in (i := 101) (by decide +kernel) (by decide +kernel), ini_X10, cw_X10_whyNotBoth⟩
theorem yd_X10_whyNotBoth : (yX10_whyNotBoth).cls = RX10 ∧ (yX10_whyNotBoth).cls ≠ "java/lang/invoke/MethodHandle" ∧ (yX10_whyNotBoth).cls ≠ "java/lang/invoke/VarHandle" ∧ (parseMethodDescriptor (yX10_whyNotBoth).desc).map (fun d => d.parameters.length) = some 2 := (by decide +kernel)
set_option maxRecDepth 100000 in
theorem cw_X10_swapped : Cond.code yX10_swapped cX10_swapped 5 (some .int) ∈ z_G := z_G_in (i := 1647) rfl rfl
theorem yw_X10_swapped : Cond.instanceMethod yX10_swapped ∈ z_G ∧ Cond.selects RX10 yX10_swapped yX10_swapped ∈ z_G ∧ Cond.initialized RX10 ∈ z_G ∧ Cond.code yX10_swapped cX10_swapped 5 (some .int) ∈ z_G := ⟨z_G_in (i := 1645) (by decide +kernel) (by decide +kernel), z_G_in (i := 1646) (by decide +kernel) (by decide +kernel), ini_X10, cw_X10_swapped⟩
theorem yd_X10_swapped : (yX10_swapped).cls = RX10 ∧ (yX10_swapped).cls ≠ "java/lang/invoke/MethodHandle" ∧ (yX10_swapped).cls ≠ "java/lang/invoke/VarHandle" ∧ (parseMethodDescriptor (yX10_swapped).desc).map (fun d => d.parameters.length) = some 2 := (by decide +kernel)
set_option maxRecDepth 100000 in
theorem cw_X10_best : Cond.code yX10_best cX10_best 5 (some .int) ∈ z_G := z_G_in (i := 1659) rfl rfl
theorem yw_X10_best : Cond.instanceMethod yX10_best ∈ z_G ∧ Cond.selects RX10 yX10_best yX10_best ∈ z_G ∧ Cond.initialized RX10 ∈ z_G ∧ Cond.code yX10_best cX10_best 5 (some .int) ∈ z_G := ⟨z_G_in (i := 1657) (by decide +kernel) (by decide +kernel), z_G_in (i := 1658) (by decide +kernel) (by decide +kernel), ini_X10, cw_X10_best⟩
theorem yd_X10_best : (yX10_best).cls = RX10 ∧ (yX10_best).cls ≠ "java/lang/invoke/MethodHandle" ∧ (yX10_best).cls ≠ "java/lang/invoke/VarHandle" ∧ (parseMethodDescriptor (yX10_best).desc).map (fun d => d.parameters.length) = some 0 := (by decide +kernel)
set_option maxRecDepth 100000 in
theorem cw_X10_pair : Cond.code yX10_pair cX10_pair 5 (some .int) ∈ z_G := z_G_in (i := 1663) rfl rfl
theorem yw_X10_pair : Cond.instanceMethod yX10_pair ∈ z_G ∧ Cond.selects RX10 yX10_pair yX10_pair ∈ z_G ∧ Cond.initialized RX10 ∈ z_G ∧ Cond.code yX10_pair cX10_pair 5 (some .int) ∈ z_G := ⟨z_G_in (i := 1661) (by decide +kernel) (by decide +kernel), z_G_in (i := 1662) (by decide +kernel) (by decide +kernel), ini_X10, cw_X10_pair⟩
theorem yd_X10_pair : (yX10_pair).cls = RX10 ∧ (yX10_pair).cls ≠ "java/lang/invoke/MethodHandle" ∧ (yX10_pair).cls ≠ "java/lang/invoke/VarHandle" ∧ (parseMethodDescriptor (yX10_pair).desc).map (fun d => d.parameters.length) = some 0 := (by decide +kernel)
set_option maxRecDepth 100000 in
theorem cw_X10_idle : Cond.code yX10_idle cX10_idle 5 (some .int) ∈ z_G := z_G_in (i := 1667) rfl rfl
theorem yw_X10_idle : Cond.instanceMethod yX10_idle ∈ z_G ∧ Cond.selects RX10 yX10_idle yX10_idle ∈ z_G ∧ Cond.initialized RX10 ∈ z_G ∧ Cond.code yX10_idle cX10_idle 5 (some .int) ∈ z_G := ⟨z_G_in (i := 1665) (by decide +kernel) (by decide +kernel), z_G_in (i := 1666) (by decide +kernel) (by decide +kernel), ini_X10, cw_X10_idle⟩
theorem yd_X10_idle : (yX10_idle).cls = RX10 ∧ (yX10_idle).cls ≠ "java/lang/invoke/MethodHandle" ∧ (yX10_idle).cls ≠ "java/lang/invoke/VarHandle" ∧ (parseMethodDescriptor (yX10_idle).desc).map (fun d => d.parameters.length) = some 0 := (by decide +kernel)
set_option maxRecDepth 100000 in
theorem cw_X10_isTaken : Cond.code yX10_isTaken cX10_isTaken 3 (some .boolean) ∈ z_G := z_G_in (i := 1487) rfl rfl
theorem yw_X10_isTaken : Cond.instanceMethod yX10_isTaken ∈ z_G ∧ Cond.selects RX10 yX10_isTaken yX10_isTaken ∈ z_G ∧ Cond.initialized RX10 ∈ z_G ∧ Cond.code yX10_isTaken cX10_isTaken 3 (some .boolean) ∈ z_G := ⟨z_G_in (i := 1486) (by decide +kernel) (by decide +kernel), z_G_in (i := 81) (by decide +kernel) (by decide +kernel), ini_X10, cw_X10_isTaken⟩
theorem yd_X10_isTaken : (yX10_isTaken).cls = RX10 ∧ (yX10_isTaken).cls ≠ "java/lang/invoke/MethodHandle" ∧ (yX10_isTaken).cls ≠ "java/lang/invoke/VarHandle" ∧ (parseMethodDescriptor (yX10_isTaken).desc).map (fun d => d.parameters.length) = some 1 := (by decide +kernel)
set_option maxRecDepth 100000 in
theorem cw_X10_laysFixed : Cond.code yX10_laysFixed cX10_laysFixed 2 none ∈ z_G := z_G_in (i := 1447) rfl rfl
theorem yw_X10_laysFixed : Cond.instanceMethod yX10_laysFixed ∈ z_G ∧ Cond.selects RX10 yX10_laysFixed yX10_laysFixed ∈ z_G ∧ Cond.initialized RX10 ∈ z_G ∧ Cond.code yX10_laysFixed cX10_laysFixed 2 none ∈ z_G := ⟨z_G_in (i := 1446) (by decide +kernel) (by decide +kernel), z_G_in (i := 72) (by decide +kernel) (by decide +kernel), ini_X10, cw_X10_laysFixed⟩
theorem yd_X10_laysFixed : (yX10_laysFixed).cls = RX10 ∧ (yX10_laysFixed).cls ≠ "java/lang/invoke/MethodHandle" ∧ (yX10_laysFixed).cls ≠ "java/lang/invoke/VarHandle" ∧ (parseMethodDescriptor (yX10_laysFixed).desc).map (fun d => d.parameters.length) = some 0 := (by decide +kernel)
set_option maxRecDepth 100000 in
theorem cw_X10_laysRest : Cond.code yX10_laysRest cX10_laysRest 3 none ∈ z_G := z_G_in (i := 1529) rfl rfl
theorem yw_X10_laysRest : Cond.instanceMethod yX10_laysRest ∈ z_G ∧ Cond.selects RX10 yX10_laysRest yX10_laysRest ∈ z_G ∧ Cond.initialized RX10 ∈ z_G ∧ Cond.code yX10_laysRest cX10_laysRest 3 none ∈ z_G := ⟨z_G_in (i := 1528) (by decide +kernel) (by decide +kernel), z_G_in (i := 91) (by decide +kernel) (by decide +kernel), ini_X10, cw_X10_laysRest⟩
theorem yd_X10_laysRest : (yX10_laysRest).cls = RX10 ∧ (yX10_laysRest).cls ≠ "java/lang/invoke/MethodHandle" ∧ (yX10_laysRest).cls ≠ "java/lang/invoke/VarHandle" ∧ (parseMethodDescriptor (yX10_laysRest).desc).map (fun d => d.parameters.length) = some 0 := (by decide +kernel)
set_option maxRecDepth 100000 in
theorem cw_X10_laysSoon : Cond.code yX10_laysSoon cX10_laysSoon 8 none ∈ z_G := z_G_in (i := 1455) rfl rfl
theorem yw_X10_laysSoon : Cond.instanceMethod yX10_laysSoon ∈ z_G ∧ Cond.selects RX10 yX10_laysSoon yX10_laysSoon ∈ z_G ∧ Cond.initialized RX10 ∈ z_G ∧ Cond.code yX10_laysSoon cX10_laysSoon 8 none ∈ z_G := ⟨z_G_in (i := 1454) (by decide +kernel) (by decide +kernel), z_G_in (i := 74) (by decide +kernel) (by decide +kernel), ini_X10, cw_X10_laysSoon⟩
theorem yd_X10_laysSoon : (yX10_laysSoon).cls = RX10 ∧ (yX10_laysSoon).cls ≠ "java/lang/invoke/MethodHandle" ∧ (yX10_laysSoon).cls ≠ "java/lang/invoke/VarHandle" ∧ (parseMethodDescriptor (yX10_laysSoon).desc).map (fun d => d.parameters.length) = some 0 := (by decide +kernel)
set_option maxRecDepth 100000 in
theorem cw_X10_laysClasses : Cond.code yX10_laysClasses cX10_laysClasses 4 none ∈ z_G := z_G_in (i := 1499) rfl rfl
theorem yw_X10_laysClasses : Cond.instanceMethod yX10_laysClasses ∈ z_G ∧ Cond.selects RX10 yX10_laysClasses yX10_laysClasses ∈ z_G ∧ Cond.initialized RX10 ∈ z_G ∧ Cond.code yX10_laysClasses cX10_laysClasses 4 none ∈ z_G := ⟨z_G_in (i := 1498) (by decide +kernel) (by decide +kernel), z_G_in (i := 84) (by decide +kernel) (by decide +kernel), ini_X10, cw_X10_laysClasses⟩
theorem yd_X10_laysClasses : (yX10_laysClasses).cls = RX10 ∧ (yX10_laysClasses).cls ≠ "java/lang/invoke/MethodHandle" ∧ (yX10_laysClasses).cls ≠ "java/lang/invoke/VarHandle" ∧ (parseMethodDescriptor (yX10_laysClasses).desc).map (fun d => d.parameters.length) = some 0 := (by decide +kernel)
set_option maxRecDepth 100000 in
theorem cw_X10_triesAll : Cond.code yX10_triesAll cX10_triesAll 2 none ∈ z_G := z_G_in (i := 1495) rfl rfl
theorem yw_X10_triesAll : Cond.instanceMethod yX10_triesAll ∈ z_G ∧ Cond.selects RX10 yX10_triesAll yX10_triesAll ∈ z_G ∧ Cond.initialized RX10 ∈ z_G ∧ Cond.code yX10_triesAll cX10_triesAll 2 none ∈ z_G := ⟨z_G_in (i := 1494) (by decide +kernel) (by decide +kernel), z_G_in (i := 83) (by decide +kernel) (by decide +kernel), ini_X10, cw_X10_triesAll⟩
theorem yd_X10_triesAll : (yX10_triesAll).cls = RX10 ∧ (yX10_triesAll).cls ≠ "java/lang/invoke/MethodHandle" ∧ (yX10_triesAll).cls ≠ "java/lang/invoke/VarHandle" ∧ (parseMethodDescriptor (yX10_triesAll).desc).map (fun d => d.parameters.length) = some 0 := (by decide +kernel)
set_option maxRecDepth 100000 in
theorem cw_X10_placeOf : Cond.code yX10_placeOf cX10_placeOf 6 (some .int) ∈ z_G := z_G_in (i := 1525) rfl rfl
theorem yw_X10_placeOf : Cond.instanceMethod yX10_placeOf ∈ z_G ∧ Cond.selects RX10 yX10_placeOf yX10_placeOf ∈ z_G ∧ Cond.initialized RX10 ∈ z_G ∧ Cond.code yX10_placeOf cX10_placeOf 6 (some .int) ∈ z_G := ⟨z_G_in (i := 1524) (by decide +kernel) (by decide +kernel), z_G_in (i := 90) (by decide +kernel) (by decide +kernel), ini_X10, cw_X10_placeOf⟩
theorem yd_X10_placeOf : (yX10_placeOf).cls = RX10 ∧ (yX10_placeOf).cls ≠ "java/lang/invoke/MethodHandle" ∧ (yX10_placeOf).cls ≠ "java/lang/invoke/VarHandle" ∧ (parseMethodDescriptor (yX10_placeOf).desc).map (fun d => d.parameters.length) = some 2 := (by decide +kernel)
set_option maxRecDepth 100000 in
theorem cw_X10_tries : Cond.code yX10_tries cX10_tries 5 none ∈ z_G := z_G_in (i := 1508) rfl rfl
theorem yw_X10_tries : Cond.instanceMethod yX10_tries ∈ z_G ∧ Cond.selects RX10 yX10_tries yX10_tries ∈ z_G ∧ Cond.initialized RX10 ∈ z_G ∧ Cond.code yX10_tries cX10_tries 5 none ∈ z_G := ⟨z_G_in (i := 1507) (by decide +kernel) (by decide +kernel), z_G_in (i := 86) (by decide +kernel) (by decide +kernel), ini_X10, cw_X10_tries⟩
theorem yd_X10_tries : (yX10_tries).cls = RX10 ∧ (yX10_tries).cls ≠ "java/lang/invoke/MethodHandle" ∧ (yX10_tries).cls ≠ "java/lang/invoke/VarHandle" ∧ (parseMethodDescriptor (yX10_tries).desc).map (fun d => d.parameters.length) = some 2 := (by decide +kernel)
set_option maxRecDepth 100000 in
theorem cw_X10_weighs : Cond.code yX10_weighs cX10_weighs 6 none ∈ z_G := z_G_in (i := 1512) rfl rfl
theorem yw_X10_weighs : Cond.instanceMethod yX10_weighs ∈ z_G ∧ Cond.selects RX10 yX10_weighs yX10_weighs ∈ z_G ∧ Cond.initialized RX10 ∈ z_G ∧ Cond.code yX10_weighs cX10_weighs 6 none ∈ z_G := ⟨z_G_in (i := 1511) (by decide +kernel) (by decide +kernel), z_G_in (i := 87) (by decide +kernel) (by decide +kernel), ini_X10, cw_X10_weighs⟩
theorem yd_X10_weighs : (yX10_weighs).cls = RX10 ∧ (yX10_weighs).cls ≠ "java/lang/invoke/MethodHandle" ∧ (yX10_weighs).cls ≠ "java/lang/invoke/VarHandle" ∧ (parseMethodDescriptor (yX10_weighs).desc).map (fun d => d.parameters.length) = some 1 := (by decide +kernel)
set_option maxRecDepth 100000 in
theorem cw_X10_isAhead : Cond.code yX10_isAhead cX10_isAhead 2 (some .boolean) ∈ z_G := z_G_in (i := 1521) rfl rfl
theorem yw_X10_isAhead : Cond.instanceMethod yX10_isAhead ∈ z_G ∧ Cond.selects RX10 yX10_isAhead yX10_isAhead ∈ z_G ∧ Cond.initialized RX10 ∈ z_G ∧ Cond.code yX10_isAhead cX10_isAhead 2 (some .boolean) ∈ z_G := ⟨z_G_in (i := 1520) (by decide +kernel) (by decide +kernel), z_G_in (i := 89) (by decide +kernel) (by decide +kernel), ini_X10, cw_X10_isAhead⟩
theorem yd_X10_isAhead : (yX10_isAhead).cls = RX10 ∧ (yX10_isAhead).cls ≠ "java/lang/invoke/MethodHandle" ∧ (yX10_isAhead).cls ≠ "java/lang/invoke/VarHandle" ∧ (parseMethodDescriptor (yX10_isAhead).desc).map (fun d => d.parameters.length) = some 0 := (by decide +kernel)
set_option maxRecDepth 100000 in
theorem cw_X10_laysBy : Cond.code yX10_laysBy cX10_laysBy 3 none ∈ z_G := z_G_in (i := 1443) rfl rfl
theorem yw_X10_laysBy : Cond.instanceMethod yX10_laysBy ∈ z_G ∧ Cond.selects RX10 yX10_laysBy yX10_laysBy ∈ z_G ∧ Cond.initialized RX10 ∈ z_G ∧ Cond.code yX10_laysBy cX10_laysBy 3 none ∈ z_G := ⟨z_G_in (i := 1442) (by decide +kernel) (by decide +kernel), z_G_in (i := 71) (by decide +kernel) (by decide +kernel), ini_X10, cw_X10_laysBy⟩
theorem yd_X10_laysBy : (yX10_laysBy).cls = RX10 ∧ (yX10_laysBy).cls ≠ "java/lang/invoke/MethodHandle" ∧ (yX10_laysBy).cls ≠ "java/lang/invoke/VarHandle" ∧ (parseMethodDescriptor (yX10_laysBy).desc).map (fun d => d.parameters.length) = some 1 := (by decide +kernel)
set_option maxRecDepth 100000 in
theorem cw_X10_takesLaid : Cond.code yX10_takesLaid cX10_takesLaid 2 none ∈ z_G := z_G_in (i := 1533) rfl rfl
theorem yw_X10_takesLaid : Cond.instanceMethod yX10_takesLaid ∈ z_G ∧ Cond.selects RX10 yX10_takesLaid yX10_takesLaid ∈ z_G ∧ Cond.initialized RX10 ∈ z_G ∧ Cond.code yX10_takesLaid cX10_takesLaid 2 none ∈ z_G := ⟨z_G_in (i := 1532) (by decide +kernel) (by decide +kernel), z_G_in (i := 92) (by decide +kernel) (by decide +kernel), ini_X10, cw_X10_takesLaid⟩
theorem yd_X10_takesLaid : (yX10_takesLaid).cls = RX10 ∧ (yX10_takesLaid).cls ≠ "java/lang/invoke/MethodHandle" ∧ (yX10_takesLaid).cls ≠ "java/lang/invoke/VarHandle" ∧ (parseMethodDescriptor (yX10_takesLaid).desc).map (fun d => d.parameters.length) = some 0 := (by decide +kernel)
set_option maxRecDepth 100000 in
theorem cw_X10_whyNotLaw : Cond.code yX10_whyNotLaw cX10_whyNotLaw 2 (some .int) ∈ z_G := z_G_in (i := 1675) rfl rfl
theorem yw_X10_whyNotLaw : Cond.instanceMethod yX10_whyNotLaw ∈ z_G ∧ Cond.selects RX10 yX10_whyNotLaw yX10_whyNotLaw ∈ z_G ∧ Cond.initialized RX10 ∈ z_G ∧ Cond.code yX10_whyNotLaw cX10_whyNotLaw 2 (some .int) ∈ z_G := ⟨z_G_in (i := 1674) (by decide +kernel) (by decide +kernel), z_G_in (i := 103) (by decide +kernel) (by decide +kernel), ini_X10, cw_X10_whyNotLaw⟩
theorem yd_X10_whyNotLaw : (yX10_whyNotLaw).cls = RX10 ∧ (yX10_whyNotLaw).cls ≠ "java/lang/invoke/MethodHandle" ∧ (yX10_whyNotLaw).cls ≠ "java/lang/invoke/VarHandle" ∧ (parseMethodDescriptor (yX10_whyNotLaw).desc).map (fun d => d.parameters.length) = some 1 := (by decide +kernel)
set_option maxRecDepth 100000 in
theorem cw_X10_lawful : Cond.code yX10_lawful cX10_lawful 4 (some .int) ∈ z_G := z_G_in (i := 1671) rfl rfl
theorem yw_X10_lawful : Cond.instanceMethod yX10_lawful ∈ z_G ∧ Cond.selects RX10 yX10_lawful yX10_lawful ∈ z_G ∧ Cond.initialized RX10 ∈ z_G ∧ Cond.code yX10_lawful cX10_lawful 4 (some .int) ∈ z_G := ⟨z_G_in (i := 1669) (by decide +kernel) (by decide +kernel), z_G_in (i := 1670) (by decide +kernel) (by decide +kernel), ini_X10, cw_X10_lawful⟩
theorem yd_X10_lawful : (yX10_lawful).cls = RX10 ∧ (yX10_lawful).cls ≠ "java/lang/invoke/MethodHandle" ∧ (yX10_lawful).cls ≠ "java/lang/invoke/VarHandle" ∧ (parseMethodDescriptor (yX10_lawful).desc).map (fun d => d.parameters.length) = some 1 := (by decide +kernel)
set_option maxRecDepth 100000 in
theorem cw_X10_address : Cond.code yX10_address cX10_address 4 (some .int) ∈ z_G := z_G_in (i := 1680) rfl rfl
theorem yw_X10_address : Cond.instanceMethod yX10_address ∈ z_G ∧ Cond.selects RX10 yX10_address yX10_address ∈ z_G ∧ Cond.initialized RX10 ∈ z_G ∧ Cond.code yX10_address cX10_address 4 (some .int) ∈ z_G := ⟨z_G_in (i := 1678) (by decide +kernel) (by decide +kernel), z_G_in (i := 1679) (by decide +kernel) (by decide +kernel), ini_X10, cw_X10_address⟩
theorem yd_X10_address : (yX10_address).cls = RX10 ∧ (yX10_address).cls ≠ "java/lang/invoke/MethodHandle" ∧ (yX10_address).cls ≠ "java/lang/invoke/VarHandle" ∧ (parseMethodDescriptor (yX10_address).desc).map (fun d => d.parameters.length) = some 2 := (by decide +kernel)
set_option maxRecDepth 100000 in
theorem cw_X10_ways : Cond.code yX10_ways cX10_ways 2 (some .long) ∈ z_G := z_G_in (i := 1684) rfl rfl
theorem yw_X10_ways : Cond.instanceMethod yX10_ways ∈ z_G ∧ Cond.selects RX10 yX10_ways yX10_ways ∈ z_G ∧ Cond.initialized RX10 ∈ z_G ∧ Cond.code yX10_ways cX10_ways 2 (some .long) ∈ z_G := ⟨z_G_in (i := 1682) (by decide +kernel) (by decide +kernel), z_G_in (i := 1683) (by decide +kernel) (by decide +kernel), ini_X10, cw_X10_ways⟩
theorem yd_X10_ways : (yX10_ways).cls = RX10 ∧ (yX10_ways).cls ≠ "java/lang/invoke/MethodHandle" ∧ (yX10_ways).cls ≠ "java/lang/invoke/VarHandle" ∧ (parseMethodDescriptor (yX10_ways).desc).map (fun d => d.parameters.length) = some 0 := (by decide +kernel)
set_option maxRecDepth 100000 in
theorem cw_X10_dearest : Cond.code yX10_dearest cX10_dearest 2 (some .int) ∈ z_G := z_G_in (i := 1688) rfl rfl
theorem yw_X10_dearest : Cond.instanceMethod yX10_dearest ∈ z_G ∧ Cond.selects RX10 yX10_dearest yX10_dearest ∈ z_G ∧ Cond.initialized RX10 ∈ z_G ∧ Cond.code yX10_dearest cX10_dearest 2 (some .int) ∈ z_G := ⟨z_G_in (i := 1686) (by decide +kernel) (by decide +kernel), z_G_in (i := 1687) (by decide +kernel) (by decide +kernel), ini_X10, cw_X10_dearest⟩
theorem yd_X10_dearest : (yX10_dearest).cls = RX10 ∧ (yX10_dearest).cls ≠ "java/lang/invoke/MethodHandle" ∧ (yX10_dearest).cls ≠ "java/lang/invoke/VarHandle" ∧ (parseMethodDescriptor (yX10_dearest).desc).map (fun d => d.parameters.length) = some 0 := (by decide +kernel)
set_option maxRecDepth 100000 in
theorem cw_X10_keeps : Cond.code yX10_keeps cX10_keeps 2 none ∈ z_G := z_G_in (i := 1696) rfl rfl
theorem yw_X10_keeps : Cond.instanceMethod yX10_keeps ∈ z_G ∧ Cond.selects RX10 yX10_keeps yX10_keeps ∈ z_G ∧ Cond.initialized RX10 ∈ z_G ∧ Cond.code yX10_keeps cX10_keeps 2 none ∈ z_G := ⟨z_G_in (i := 1695) (by decide +kernel) (by decide +kernel), z_G_in (i := 104) (by decide +kernel) (by decide +kernel), ini_X10, cw_X10_keeps⟩
theorem yd_X10_keeps : (yX10_keeps).cls = RX10 ∧ (yX10_keeps).cls ≠ "java/lang/invoke/MethodHandle" ∧ (yX10_keeps).cls ≠ "java/lang/invoke/VarHandle" ∧ (parseMethodDescriptor (yX10_keeps).desc).map (fun d => d.parameters.length) = some 0 := (by decide +kernel)
set_option maxRecDepth 100000 in
theorem cw_X10_goesBack : Cond.code yX10_goesBack cX10_goesBack 3 none ∈ z_G := z_G_in (i := 1712) rfl rfl
theorem yw_X10_goesBack : Cond.instanceMethod yX10_goesBack ∈ z_G ∧ Cond.selects RX10 yX10_goesBack yX10_goesBack ∈ z_G ∧ Cond.initialized RX10 ∈ z_G ∧ Cond.code yX10_goesBack cX10_goesBack 3 none ∈ z_G := ⟨z_G_in (i := 1711) (by decide +kernel) (by decide +kernel), z_G_in (i := 105) (by decide +kernel) (by decide +kernel), ini_X10, cw_X10_goesBack⟩
theorem yd_X10_goesBack : (yX10_goesBack).cls = RX10 ∧ (yX10_goesBack).cls ≠ "java/lang/invoke/MethodHandle" ∧ (yX10_goesBack).cls ≠ "java/lang/invoke/VarHandle" ∧ (parseMethodDescriptor (yX10_goesBack).desc).map (fun d => d.parameters.length) = some 1 := (by decide +kernel)
set_option maxRecDepth 100000 in
theorem cw_X10_put : Cond.code yX10_put cX10_put 4 (some .int) ∈ z_G := z_G_in (i := 1692) rfl rfl
theorem yw_X10_put : Cond.instanceMethod yX10_put ∈ z_G ∧ Cond.selects RX10 yX10_put yX10_put ∈ z_G ∧ Cond.initialized RX10 ∈ z_G ∧ Cond.code yX10_put cX10_put 4 (some .int) ∈ z_G := ⟨z_G_in (i := 1690) (by decide +kernel) (by decide +kernel), z_G_in (i := 1691) (by decide +kernel) (by decide +kernel), ini_X10, cw_X10_put⟩
theorem yd_X10_put : (yX10_put).cls = RX10 ∧ (yX10_put).cls ≠ "java/lang/invoke/MethodHandle" ∧ (yX10_put).cls ≠ "java/lang/invoke/VarHandle" ∧ (parseMethodDescriptor (yX10_put).desc).map (fun d => d.parameters.length) = some 2 := (by decide +kernel)
set_option maxRecDepth 100000 in
theorem cw_X10_swap : Cond.code yX10_swap cX10_swap 5 (some .int) ∈ z_G := z_G_in (i := 1700) rfl rfl
theorem yw_X10_swap : Cond.instanceMethod yX10_swap ∈ z_G ∧ Cond.selects RX10 yX10_swap yX10_swap ∈ z_G ∧ Cond.initialized RX10 ∈ z_G ∧ Cond.code yX10_swap cX10_swap 5 (some .int) ∈ z_G := ⟨z_G_in (i := 1698) (by decide +kernel) (by decide +kernel), z_G_in (i := 1699) (by decide +kernel) (by decide +kernel), ini_X10, cw_X10_swap⟩
theorem yd_X10_swap : (yX10_swap).cls = RX10 ∧ (yX10_swap).cls ≠ "java/lang/invoke/MethodHandle" ∧ (yX10_swap).cls ≠ "java/lang/invoke/VarHandle" ∧ (parseMethodDescriptor (yX10_swap).desc).map (fun d => d.parameters.length) = some 2 := (by decide +kernel)
set_option maxRecDepth 100000 in
theorem cw_X10_lays : Cond.code yX10_lays cX10_lays 3 (some .int) ∈ z_G := z_G_in (i := 1704) rfl rfl
theorem yw_X10_lays : Cond.instanceMethod yX10_lays ∈ z_G ∧ Cond.selects RX10 yX10_lays yX10_lays ∈ z_G ∧ Cond.initialized RX10 ∈ z_G ∧ Cond.code yX10_lays cX10_lays 3 (some .int) ∈ z_G := ⟨z_G_in (i := 1702) (by decide +kernel) (by decide +kernel), z_G_in (i := 1703) (by decide +kernel) (by decide +kernel), ini_X10, cw_X10_lays⟩
theorem yd_X10_lays : (yX10_lays).cls = RX10 ∧ (yX10_lays).cls ≠ "java/lang/invoke/MethodHandle" ∧ (yX10_lays).cls ≠ "java/lang/invoke/VarHandle" ∧ (parseMethodDescriptor (yX10_lays).desc).map (fun d => d.parameters.length) = some 1 := (by decide +kernel)
set_option maxRecDepth 100000 in
theorem cw_X10_undo : Cond.code yX10_undo cX10_undo 1 (some .int) ∈ z_G := z_G_in (i := 1708) rfl rfl
theorem yw_X10_undo : Cond.instanceMethod yX10_undo ∈ z_G ∧ Cond.selects RX10 yX10_undo yX10_undo ∈ z_G ∧ Cond.initialized RX10 ∈ z_G ∧ Cond.code yX10_undo cX10_undo 1 (some .int) ∈ z_G := ⟨z_G_in (i := 1706) (by decide +kernel) (by decide +kernel), z_G_in (i := 1707) (by decide +kernel) (by decide +kernel), ini_X10, cw_X10_undo⟩
theorem yd_X10_undo : (yX10_undo).cls = RX10 ∧ (yX10_undo).cls ≠ "java/lang/invoke/MethodHandle" ∧ (yX10_undo).cls ≠ "java/lang/invoke/VarHandle" ∧ (parseMethodDescriptor (yX10_undo).desc).map (fun d => d.parameters.length) = some 0 := (by decide +kernel)
set_option maxRecDepth 100000 in
theorem cw_X10_anew : Cond.code yX10_anew cX10_anew 2 (some .int) ∈ z_G := z_G_in (i := 1716) rfl rfl
theorem yw_X10_anew : Cond.instanceMethod yX10_anew ∈ z_G ∧ Cond.selects RX10 yX10_anew yX10_anew ∈ z_G ∧ Cond.initialized RX10 ∈ z_G ∧ Cond.code yX10_anew cX10_anew 2 (some .int) ∈ z_G := ⟨z_G_in (i := 1714) (by decide +kernel) (by decide +kernel), z_G_in (i := 1715) (by decide +kernel) (by decide +kernel), ini_X10, cw_X10_anew⟩
theorem yd_X10_anew : (yX10_anew).cls = RX10 ∧ (yX10_anew).cls ≠ "java/lang/invoke/MethodHandle" ∧ (yX10_anew).cls ≠ "java/lang/invoke/VarHandle" ∧ (parseMethodDescriptor (yX10_anew).desc).map (fun d => d.parameters.length) = some 0 := (by decide +kernel)
set_option maxRecDepth 100000 in
theorem cw_J9_floorMod_7cf53 : Cond.code yJ9_floorMod_7cf53 cJ9_floorMod_7cf53 3 (some .int) ∈ z_G := z_G_in (i := 827) rfl rfl
theorem yw_J9_floorMod_7cf53 : Cond.static yJ9_floorMod_7cf53 ∈ z_G ∧ Cond.initialized (yJ9_floorMod_7cf53).cls ∈ z_G ∧ Cond.code yJ9_floorMod_7cf53 cJ9_floorMod_7cf53 3 (some .int) ∈ z_G := ⟨z_G_in (i := 826) (by decide +kernel) (by decide +kernel), ini_J9, cw_J9_floorMod_7cf53⟩
theorem yd_J9_floorMod_7cf53 : (yJ9_floorMod_7cf53).cls ≠ "java/lang/invoke/MethodHandle" ∧ (yJ9_floorMod_7cf53).cls ≠ "java/lang/invoke/VarHandle" ∧ (parseMethodDescriptor (yJ9_floorMod_7cf53).desc).map (fun d => d.parameters.length) = some 2 := (by decide +kernel)
set_option maxRecDepth 100000 in
theorem cw_J9_max_7cf53 : Cond.code yJ9_max_7cf53 cJ9_max_7cf53 2 (some .int) ∈ z_G := z_G_in (i := 1115) rfl rfl
theorem yw_J9_max_7cf53 : Cond.static yJ9_max_7cf53 ∈ z_G ∧ Cond.initialized (yJ9_max_7cf53).cls ∈ z_G ∧ Cond.code yJ9_max_7cf53 cJ9_max_7cf53 2 (some .int) ∈ z_G := ⟨z_G_in (i := 1114) (by decide +kernel) (by decide +kernel), ini_J9, cw_J9_max_7cf53⟩
theorem yd_J9_max_7cf53 : (yJ9_max_7cf53).cls ≠ "java/lang/invoke/MethodHandle" ∧ (yJ9_max_7cf53).cls ≠ "java/lang/invoke/VarHandle" ∧ (parseMethodDescriptor (yJ9_max_7cf53).desc).map (fun d => d.parameters.length) = some 2 := (by decide +kernel)
set_option maxRecDepth 100000 in
theorem cw_J9_min_7cf53 : Cond.code yJ9_min_7cf53 cJ9_min_7cf53 2 (some .int) ∈ z_G := z_G_in (i := 594) rfl rfl
theorem yw_J9_min_7cf53 : Cond.static yJ9_min_7cf53 ∈ z_G ∧ Cond.initialized (yJ9_min_7cf53).cls ∈ z_G ∧ Cond.code yJ9_min_7cf53 cJ9_min_7cf53 2 (some .int) ∈ z_G := ⟨z_G_in (i := 593) (by decide +kernel) (by decide +kernel), ini_J9, cw_J9_min_7cf53⟩
theorem yd_J9_min_7cf53 : (yJ9_min_7cf53).cls ≠ "java/lang/invoke/MethodHandle" ∧ (yJ9_min_7cf53).cls ≠ "java/lang/invoke/VarHandle" ∧ (parseMethodDescriptor (yJ9_min_7cf53).desc).map (fun d => d.parameters.length) = some 2 := (by decide +kernel)
set_option maxRecDepth 100000 in
theorem cw_J0_length_8abf5 : Cond.code yJ0_length_8abf5 cJ0_length_8abf5 1 (some .int) ∈ z_G := z_G_in (i := 615) rfl rfl
theorem yw_J0_length_8abf5 : Cond.instanceMethod yJ0_length_8abf5 ∈ z_G ∧ Cond.selects RJ0 yJ0_length_8abf5 yJ0_length_8abf5 ∈ z_G ∧ Cond.initialized RJ0 ∈ z_G ∧ Cond.code yJ0_length_8abf5 cJ0_length_8abf5 1 (some .int) ∈ z_G := ⟨z_G_in (i := 613) (by decide +kernel) (by decide +kernel), z_G_in (i := 614) (by decide +kernel) (by decide +kernel), ini_J0, cw_J0_length_8abf5⟩
theorem yd_J0_length_8abf5 : (yJ0_length_8abf5).cls = RJ0 ∧ (yJ0_length_8abf5).cls ≠ "java/lang/invoke/MethodHandle" ∧ (yJ0_length_8abf5).cls ≠ "java/lang/invoke/VarHandle" ∧ (parseMethodDescriptor (yJ0_length_8abf5).desc).map (fun d => d.parameters.length) = some 0 := (by decide +kernel)
set_option maxRecDepth 100000 in
theorem cw_J0_charAt_5068e : Cond.code yJ0_charAt_5068e cJ0_charAt_5068e 2 (some .char) ∈ z_G := z_G_in (i := 625) rfl rfl
theorem yw_J0_charAt_5068e : Cond.instanceMethod yJ0_charAt_5068e ∈ z_G ∧ Cond.selects RJ0 yJ0_charAt_5068e yJ0_charAt_5068e ∈ z_G ∧ Cond.initialized RJ0 ∈ z_G ∧ Cond.code yJ0_charAt_5068e cJ0_charAt_5068e 2 (some .char) ∈ z_G := ⟨z_G_in (i := 623) (by decide +kernel) (by decide +kernel), z_G_in (i := 624) (by decide +kernel) (by decide +kernel), ini_J0, cw_J0_charAt_5068e⟩
theorem yd_J0_charAt_5068e : (yJ0_charAt_5068e).cls = RJ0 ∧ (yJ0_charAt_5068e).cls ≠ "java/lang/invoke/MethodHandle" ∧ (yJ0_charAt_5068e).cls ≠ "java/lang/invoke/VarHandle" ∧ (parseMethodDescriptor (yJ0_charAt_5068e).desc).map (fun d => d.parameters.length) = some 1 := (by decide +kernel)
set_option maxRecDepth 100000 in
theorem cw_J0_coder_7d493 : Cond.code yJ0_coder_7d493 cJ0_coder_7d493 1 (some .byte) ∈ z_G := z_G_in (i := 619) rfl rfl
theorem yw_J0_coder_7d493 : Cond.instanceMethod yJ0_coder_7d493 ∈ z_G ∧ Cond.selects RJ0 yJ0_coder_7d493 yJ0_coder_7d493 ∈ z_G ∧ Cond.initialized RJ0 ∈ z_G ∧ Cond.code yJ0_coder_7d493 cJ0_coder_7d493 1 (some .byte) ∈ z_G := ⟨z_G_in (i := 617) (by decide +kernel) (by decide +kernel), z_G_in (i := 618) (by decide +kernel) (by decide +kernel), ini_J0, cw_J0_coder_7d493⟩
theorem yd_J0_coder_7d493 : (yJ0_coder_7d493).cls = RJ0 ∧ (yJ0_coder_7d493).cls ≠ "java/lang/invoke/MethodHandle" ∧ (yJ0_coder_7d493).cls ≠ "java/lang/invoke/VarHandle" ∧ (parseMethodDescriptor (yJ0_coder_7d493).desc).map (fun d => d.parameters.length) = some 0 := (by decide +kernel)
set_option maxRecDepth 100000 in
theorem cw_J0_isLatin1_aae02 : Cond.code yJ0_isLatin1_aae02 cJ0_isLatin1_aae02 1 (some .boolean) ∈ z_G := z_G_in (i := 629) rfl rfl
theorem yw_J0_isLatin1_aae02 : Cond.instanceMethod yJ0_isLatin1_aae02 ∈ z_G ∧ Cond.selects RJ0 yJ0_isLatin1_aae02 yJ0_isLatin1_aae02 ∈ z_G ∧ Cond.initialized RJ0 ∈ z_G ∧ Cond.code yJ0_isLatin1_aae02 cJ0_isLatin1_aae02 1 (some .boolean) ∈ z_G := ⟨z_G_in (i := 627) (by decide +kernel) (by decide +kernel), z_G_in (i := 628) (by decide +kernel) (by decide +kernel), ini_J0, cw_J0_isLatin1_aae02⟩
theorem yd_J0_isLatin1_aae02 : (yJ0_isLatin1_aae02).cls = RJ0 ∧ (yJ0_isLatin1_aae02).cls ≠ "java/lang/invoke/MethodHandle" ∧ (yJ0_isLatin1_aae02).cls ≠ "java/lang/invoke/VarHandle" ∧ (parseMethodDescriptor (yJ0_isLatin1_aae02).desc).map (fun d => d.parameters.length) = some 0 := (by decide +kernel)
set_option maxRecDepth 100000 in
theorem cw_J0_checkIndex_df160 : Cond.code yJ0_checkIndex_df160 cJ0_checkIndex_df160 2 none ∈ z_G := z_G_in (i := 635) rfl rfl
theorem yw_J0_checkIndex_df160 : Cond.static yJ0_checkIndex_df160 ∈ z_G ∧ Cond.initialized (yJ0_checkIndex_df160).cls ∈ z_G ∧ Cond.code yJ0_checkIndex_df160 cJ0_checkIndex_df160 2 none ∈ z_G := ⟨z_G_in (i := 634) (by decide +kernel) (by decide +kernel), ini_J0, cw_J0_checkIndex_df160⟩
theorem yd_J0_checkIndex_df160 : (yJ0_checkIndex_df160).cls ≠ "java/lang/invoke/MethodHandle" ∧ (yJ0_checkIndex_df160).cls ≠ "java/lang/invoke/VarHandle" ∧ (parseMethodDescriptor (yJ0_checkIndex_df160).desc).map (fun d => d.parameters.length) = some 2 := (by decide +kernel)
set_option maxRecDepth 100000 in
theorem cw_J1_charAt_3b067 : Cond.code yJ1_charAt_3b067 cJ1_charAt_3b067 2 (some .char) ∈ z_G := z_G_in (i := 632) rfl rfl
theorem yw_J1_charAt_3b067 : Cond.static yJ1_charAt_3b067 ∈ z_G ∧ Cond.initialized (yJ1_charAt_3b067).cls ∈ z_G ∧ Cond.code yJ1_charAt_3b067 cJ1_charAt_3b067 2 (some .char) ∈ z_G := ⟨z_G_in (i := 631) (by decide +kernel) (by decide +kernel), ini_J1, cw_J1_charAt_3b067⟩
theorem yd_J1_charAt_3b067 : (yJ1_charAt_3b067).cls ≠ "java/lang/invoke/MethodHandle" ∧ (yJ1_charAt_3b067).cls ≠ "java/lang/invoke/VarHandle" ∧ (parseMethodDescriptor (yJ1_charAt_3b067).desc).map (fun d => d.parameters.length) = some 2 := (by decide +kernel)
set_option maxRecDepth 100000 in
theorem cw_J2_getChar_3b067 : Cond.code yJ2_getChar_3b067 cJ2_getChar_3b067 2 (some .char) ∈ z_G := z_G_in (i := 653) rfl rfl
theorem yw_J2_getChar_3b067 : Cond.static yJ2_getChar_3b067 ∈ z_G ∧ Cond.initialized (yJ2_getChar_3b067).cls ∈ z_G ∧ Cond.code yJ2_getChar_3b067 cJ2_getChar_3b067 2 (some .char) ∈ z_G := ⟨z_G_in (i := 652) (by decide +kernel) (by decide +kernel), ini_J2, cw_J2_getChar_3b067⟩
theorem yd_J2_getChar_3b067 : (yJ2_getChar_3b067).cls ≠ "java/lang/invoke/MethodHandle" ∧ (yJ2_getChar_3b067).cls ≠ "java/lang/invoke/VarHandle" ∧ (parseMethodDescriptor (yJ2_getChar_3b067).desc).map (fun d => d.parameters.length) = some 2 := (by decide +kernel)
set_option maxRecDepth 100000 in
theorem cw_J2_length_9d52b : Cond.code yJ2_length_9d52b cJ2_length_9d52b 1 (some .int) ∈ z_G := z_G_in (i := 649) rfl rfl
theorem yw_J2_length_9d52b : Cond.static yJ2_length_9d52b ∈ z_G ∧ Cond.initialized (yJ2_length_9d52b).cls ∈ z_G ∧ Cond.code yJ2_length_9d52b cJ2_length_9d52b 1 (some .int) ∈ z_G := ⟨z_G_in (i := 648) (by decide +kernel) (by decide +kernel), ini_J2, cw_J2_length_9d52b⟩
theorem yd_J2_length_9d52b : (yJ2_length_9d52b).cls ≠ "java/lang/invoke/MethodHandle" ∧ (yJ2_length_9d52b).cls ≠ "java/lang/invoke/VarHandle" ∧ (parseMethodDescriptor (yJ2_length_9d52b).desc).map (fun d => d.parameters.length) = some 1 := (by decide +kernel)
set_option maxRecDepth 100000 in
theorem cw_J2_charAt_3b067 : Cond.code yJ2_charAt_3b067 cJ2_charAt_3b067 2 (some .char) ∈ z_G := z_G_in (i := 643) rfl rfl
theorem yw_J2_charAt_3b067 : Cond.static yJ2_charAt_3b067 ∈ z_G ∧ Cond.initialized (yJ2_charAt_3b067).cls ∈ z_G ∧ Cond.code yJ2_charAt_3b067 cJ2_charAt_3b067 2 (some .char) ∈ z_G := ⟨z_G_in (i := 642) (by decide +kernel) (by decide +kernel), ini_J2, cw_J2_charAt_3b067⟩
theorem yd_J2_charAt_3b067 : (yJ2_charAt_3b067).cls ≠ "java/lang/invoke/MethodHandle" ∧ (yJ2_charAt_3b067).cls ≠ "java/lang/invoke/VarHandle" ∧ (parseMethodDescriptor (yJ2_charAt_3b067).desc).map (fun d => d.parameters.length) = some 2 := (by decide +kernel)
set_option maxRecDepth 100000 in
theorem cw_J2_checkIndex_2214a : Cond.code yJ2_checkIndex_2214a cJ2_checkIndex_2214a 2 none ∈ z_G := z_G_in (i := 646) rfl rfl
theorem yw_J2_checkIndex_2214a : Cond.static yJ2_checkIndex_2214a ∈ z_G ∧ Cond.initialized (yJ2_checkIndex_2214a).cls ∈ z_G ∧ Cond.code yJ2_checkIndex_2214a cJ2_checkIndex_2214a 2 none ∈ z_G := ⟨z_G_in (i := 645) (by decide +kernel) (by decide +kernel), ini_J2, cw_J2_checkIndex_2214a⟩
theorem yd_J2_checkIndex_2214a : (yJ2_checkIndex_2214a).cls ≠ "java/lang/invoke/MethodHandle" ∧ (yJ2_checkIndex_2214a).cls ≠ "java/lang/invoke/VarHandle" ∧ (parseMethodDescriptor (yJ2_checkIndex_2214a).desc).map (fun d => d.parameters.length) = some 2 := (by decide +kernel)
set_option maxRecDepth 100000 in
theorem cw_J3_checkIndex_8e157 : Cond.code yJ3_checkIndex_8e157 cJ3_checkIndex_8e157 3 (some .int) ∈ z_G := z_G_in (i := 640) rfl rfl
theorem yw_J3_checkIndex_8e157 : Cond.static yJ3_checkIndex_8e157 ∈ z_G ∧ Cond.initialized (yJ3_checkIndex_8e157).cls ∈ z_G ∧ Cond.code yJ3_checkIndex_8e157 cJ3_checkIndex_8e157 3 (some .int) ∈ z_G := ⟨z_G_in (i := 639) (by decide +kernel) (by decide +kernel), ini_J3, cw_J3_checkIndex_8e157⟩
theorem yd_J3_checkIndex_8e157 : (yJ3_checkIndex_8e157).cls ≠ "java/lang/invoke/MethodHandle" ∧ (yJ3_checkIndex_8e157).cls ≠ "java/lang/invoke/VarHandle" ∧ (parseMethodDescriptor (yJ3_checkIndex_8e157).desc).map (fun d => d.parameters.length) = some 3 := (by decide +kernel)
theorem aw_copy : Cond.native arraycopyName ∈ z_G ∧ Cond.static arraycopyName ∈ z_G ∧ Cond.initialized "java/lang/System" ∈ z_G := ⟨z_G_in (i := 801) (by decide +kernel) (by decide +kernel), z_G_in (i := 800) (by decide +kernel) (by decide +kernel), z_G_in (i := 123) (by decide +kernel) (by decide +kernel)⟩
