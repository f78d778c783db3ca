theorem kcopy : Cond.native arraycopyName ∈ Tw ∧ Cond.static arraycopyName ∈ Tw ∧ Cond.initialized "java/lang/System" ∈ Tw := ⟨tw_of 553 (by decide +kernel) rfl, tw_of 552 (by decide +kernel) rfl, tw_of 173 (by decide +kernel) rfl⟩
theorem ci_J6_265 : Cond.constant RJ6 265 (1431655765) ∈ Tw := tw_of 964 (by decide +kernel) rfl
theorem ci_J6_266 : Cond.constant RJ6 266 (858993459) ∈ Tw := tw_of 965 (by decide +kernel) rfl
theorem ci_J6_267 : Cond.constant RJ6 267 (252645135) ∈ Tw := tw_of 966 (by decide +kernel) rfl
theorem kmJ6_bitCount_0f7a4 : KM yJ6_bitCount_0f7a4 cJ6_bitCount_0f7a4 1 (some .int) 1 := ⟨tw_of 963 (by decide +kernel) rfl, tw_of 176 (by decide +kernel) rfl, by decide⟩
theorem kmJ7_fill_53178 : KM yJ7_fill_53178 cJ7_fill_53178 4 none 2 := ⟨tw_of 1017 (by decide +kernel) rfl, tw_of 175 (by decide +kernel) rfl, by decide⟩
theorem kmJ9_abs_067f4 : KM yJ9_abs_067f4 cJ9_abs_067f4 2 (some .long) 1 := ⟨tw_of 679 (by decide +kernel) rfl, tw_of 172 (by decide +kernel) rfl, by decide⟩
theorem kmJ9_max_7cf53 : KM yJ9_max_7cf53 cJ9_max_7cf53 2 (some .int) 2 := ⟨tw_of 701 (by decide +kernel) rfl, tw_of 172 (by decide +kernel) rfl, by decide⟩
theorem kmJ9_min_7cf53 : KM yJ9_min_7cf53 cJ9_min_7cf53 2 (some .int) 2 := ⟨tw_of 485 (by decide +kernel) rfl, tw_of 172 (by decide +kernel) rfl, by decide⟩
theorem kmX1_allPlies : KM yX1_allPlies cX1_allPlies 1 (some .int) 0 := ⟨tw_of 978 (by decide +kernel) rfl, tw_of 163 (by decide +kernel) rfl, by decide⟩
theorem kmX1_isRowFlat : KM yX1_isRowFlat cX1_isRowFlat 7 (some .boolean) 2 := ⟨tw_of 657 (by decide +kernel) rfl, tw_of 163 (by decide +kernel) rfl, by decide⟩
theorem kmX1_isRowStraight : KM yX1_isRowStraight cX1_isRowStraight 3 (some .boolean) 2 := ⟨tw_of 663 (by decide +kernel) rfl, tw_of 163 (by decide +kernel) rfl, by decide⟩
theorem kmX1_number : KM yX1_number cX1_number 3 (some .int) 2 := ⟨tw_of 524 (by decide +kernel) rfl, tw_of 163 (by decide +kernel) rfl, by decide⟩
theorem kmX1_plies : KM yX1_plies cX1_plies 1 (some .int) 0 := ⟨tw_of 573 (by decide +kernel) rfl, tw_of 163 (by decide +kernel) rfl, by decide⟩
theorem kmX1_roomNow : KM yX1_roomNow cX1_roomNow 1 (some .int) 0 := ⟨tw_of 569 (by decide +kernel) rfl, tw_of 163 (by decide +kernel) rfl, by decide⟩
theorem kmX1_row : KM yX1_row cX1_row 1 (some .int) 0 := ⟨tw_of 589 (by decide +kernel) rfl, tw_of 163 (by decide +kernel) rfl, by decide⟩
theorem kmX1_setCell : KM yX1_setCell cX1_setCell 4 none 3 := ⟨tw_of 534 (by decide +kernel) rfl, tw_of 163 (by decide +kernel) rfl, by decide⟩
theorem kmX1_shape : KM yX1_shape cX1_shape 4 (some .int) 2 := ⟨tw_of 650 (by decide +kernel) rfl, tw_of 163 (by decide +kernel) rfl, by decide⟩
theorem kmX1_suits : KM yX1_suits cX1_suits 4 (some .boolean) 3 := ⟨tw_of 991 (by decide +kernel) rfl, tw_of 163 (by decide +kernel) rfl, by decide⟩
theorem kmX1_total : KM yX1_total cX1_total 4 (some .long) 3 := ⟨tw_of 637 (by decide +kernel) rfl, tw_of 163 (by decide +kernel) rfl, by decide⟩
theorem kmX1_totalOf : KM yX1_totalOf cX1_totalOf 11 (some .long) 5 := ⟨tw_of 641 (by decide +kernel) rfl, tw_of 163 (by decide +kernel) rfl, by decide⟩
theorem kmX1_warpWithout : KM yX1_warpWithout cX1_warpWithout 5 (some .long) 1 := ⟨tw_of 675 (by decide +kernel) rfl, tw_of 163 (by decide +kernel) rfl, by decide⟩
theorem kmX3_angleAt : KM yX3_angleAt cX3_angleAt 2 (some .int) 2 := ⟨tw_of 698 (by decide +kernel) rfl, tw_of 174 (by decide +kernel) rfl, by decide⟩
theorem kmX3_chosen : KM yX3_chosen cX3_chosen 6 (some .int) 3 := ⟨tw_of 987 (by decide +kernel) rfl, tw_of 174 (by decide +kernel) rfl, by decide⟩
theorem kmX3_isMirrored : KM yX3_isMirrored cX3_isMirrored 3 (some .boolean) 2 := ⟨tw_of 653 (by decide +kernel) rfl, tw_of 174 (by decide +kernel) rfl, by decide⟩
theorem kmX3_longestRun : KM yX3_longestRun cX3_longestRun 5 (some .int) 2 := ⟨tw_of 695 (by decide +kernel) rfl, tw_of 174 (by decide +kernel) rfl, by decide⟩
theorem kmX3_overturned : KM yX3_overturned cX3_overturned 5 (some .int) 2 := ⟨tw_of 1172 (by decide +kernel) rfl, tw_of 174 (by decide +kernel) rfl, by decide⟩
theorem kmX3_thickOf : KM yX3_thickOf cX3_thickOf 1 (some .int) 1 := ⟨tw_of 616 (by decide +kernel) rfl, tw_of 174 (by decide +kernel) rfl, by decide⟩
theorem kmX3_typeAt : KM yX3_typeAt cX3_typeAt 2 (some .int) 2 := ⟨tw_of 596 (by decide +kernel) rfl, tw_of 174 (by decide +kernel) rfl, by decide⟩
theorem kmX3_whirled : KM yX3_whirled cX3_whirled 7 (some .int) 3 := ⟨tw_of 1162 (by decide +kernel) rfl, tw_of 174 (by decide +kernel) rfl, by decide⟩
theorem kmX3_with : KM yX3_with cX3_with 3 (some .int) 3 := ⟨tw_of 1114 (by decide +kernel) rfl, tw_of 174 (by decide +kernel) rfl, by decide⟩
theorem kmX6_isThin : KM yX6_isThin cX6_isThin 4 (some .boolean) 3 := ⟨tw_of 982 (by decide +kernel) rfl, tw_of 165 (by decide +kernel) rfl, by decide⟩
theorem kmX6_leads : KM yX6_leads cX6_leads 3 (some .boolean) 2 := ⟨tw_of 1025 (by decide +kernel) rfl, tw_of 165 (by decide +kernel) rfl, by decide⟩
theorem kmX6_leastDepthAbove : KM yX6_leastDepthAbove cX6_leastDepthAbove 4 (some .int) 1 := ⟨tw_of 1021 (by decide +kernel) rfl, tw_of 165 (by decide +kernel) rfl, by decide⟩
theorem kmX6_steps : KM yX6_steps cX6_steps 2 (some .int) 1 := ⟨tw_of 1029 (by decide +kernel) rfl, tw_of 165 (by decide +kernel) rfl, by decide⟩
theorem kmX7_isImage : KM yX7_isImage cX7_isImage 1 (some .boolean) 1 := ⟨tw_of 1189 (by decide +kernel) rfl, tw_of 160 (by decide +kernel) rfl, by decide⟩
theorem kmX7_leftWithout : KM yX7_leftWithout cX7_leftWithout 4 (some .long) 2 := ⟨tw_of 1094 (by decide +kernel) rfl, tw_of 160 (by decide +kernel) rfl, by decide⟩
theorem ksJ6_bitCount_0f7a4 : Cond.static yJ6_bitCount_0f7a4 ∈ Tw := tw_of 962 (by decide +kernel) rfl
theorem ksJ7_fill_53178 : Cond.static yJ7_fill_53178 ∈ Tw := tw_of 1016 (by decide +kernel) rfl
theorem ksJ9_abs_067f4 : Cond.static yJ9_abs_067f4 ∈ Tw := tw_of 678 (by decide +kernel) rfl
theorem ksJ9_max_7cf53 : Cond.static yJ9_max_7cf53 ∈ Tw := tw_of 700 (by decide +kernel) rfl
theorem ksJ9_min_7cf53 : Cond.static yJ9_min_7cf53 ∈ Tw := tw_of 484 (by decide +kernel) rfl
theorem ksX3_angleAt : Cond.static yX3_angleAt ∈ Tw := tw_of 697 (by decide +kernel) rfl
theorem ksX3_chosen : Cond.static yX3_chosen ∈ Tw := tw_of 986 (by decide +kernel) rfl
theorem ksX3_isMirrored : Cond.static yX3_isMirrored ∈ Tw := tw_of 652 (by decide +kernel) rfl
theorem ksX3_longestRun : Cond.static yX3_longestRun ∈ Tw := tw_of 694 (by decide +kernel) rfl
theorem ksX3_overturned : Cond.static yX3_overturned ∈ Tw := tw_of 1171 (by decide +kernel) rfl
theorem ksX3_thickOf : Cond.static yX3_thickOf ∈ Tw := tw_of 615 (by decide +kernel) rfl
theorem ksX3_typeAt : Cond.static yX3_typeAt ∈ Tw := tw_of 595 (by decide +kernel) rfl
theorem ksX3_whirled : Cond.static yX3_whirled ∈ Tw := tw_of 1161 (by decide +kernel) rfl
theorem ksX3_with : Cond.static yX3_with ∈ Tw := tw_of 1113 (by decide +kernel) rfl
theorem ksX6_isThin : Cond.static yX6_isThin ∈ Tw := tw_of 981 (by decide +kernel) rfl
theorem ksX7_isImage : Cond.static yX7_isImage ∈ Tw := tw_of 1188 (by decide +kernel) rfl
theorem kvX1_allPlies : KV yX1_allPlies := ⟨tw_of 977 (by decide +kernel) rfl, tw_of 75 (by decide +kernel) rfl⟩
theorem kvX1_isRowFlat : KV yX1_isRowFlat := ⟨tw_of 656 (by decide +kernel) rfl, tw_of 36 (by decide +kernel) rfl⟩
theorem kvX1_isRowStraight : KV yX1_isRowStraight := ⟨tw_of 662 (by decide +kernel) rfl, tw_of 37 (by decide +kernel) rfl⟩
theorem kvX1_number : KV yX1_number := ⟨tw_of 523 (by decide +kernel) rfl, tw_of 20 (by decide +kernel) rfl⟩
theorem kvX1_plies : KV yX1_plies := ⟨tw_of 572 (by decide +kernel) rfl, tw_of 27 (by decide +kernel) rfl⟩
theorem kvX1_roomNow : KV yX1_roomNow := ⟨tw_of 568 (by decide +kernel) rfl, tw_of 26 (by decide +kernel) rfl⟩
theorem kvX1_row : KV yX1_row := ⟨tw_of 588 (by decide +kernel) rfl, tw_of 30 (by decide +kernel) rfl⟩
theorem kvX1_setCell : KV yX1_setCell := ⟨tw_of 533 (by decide +kernel) rfl, tw_of 21 (by decide +kernel) rfl⟩
theorem kvX1_shape : KV yX1_shape := ⟨tw_of 649 (by decide +kernel) rfl, tw_of 35 (by decide +kernel) rfl⟩
theorem kvX1_suits : KV yX1_suits := ⟨tw_of 990 (by decide +kernel) rfl, tw_of 76 (by decide +kernel) rfl⟩
theorem kvX1_total : KV yX1_total := ⟨tw_of 636 (by decide +kernel) rfl, tw_of 33 (by decide +kernel) rfl⟩
theorem kvX1_totalOf : KV yX1_totalOf := ⟨tw_of 640 (by decide +kernel) rfl, tw_of 34 (by decide +kernel) rfl⟩
theorem kvX1_warpWithout : KV yX1_warpWithout := ⟨tw_of 674 (by decide +kernel) rfl, tw_of 39 (by decide +kernel) rfl⟩
theorem kvX6_leads : KV yX6_leads := ⟨tw_of 1024 (by decide +kernel) rfl, tw_of 80 (by decide +kernel) rfl⟩
theorem kvX6_leastDepthAbove : KV yX6_leastDepthAbove := ⟨tw_of 1020 (by decide +kernel) rfl, tw_of 79 (by decide +kernel) rfl⟩
theorem kvX6_steps : KV yX6_steps := ⟨tw_of 1028 (by decide +kernel) rfl, tw_of 81 (by decide +kernel) rfl⟩
theorem kvX7_leftWithout : KV yX7_leftWithout := ⟨tw_of 1093 (by decide +kernel) rfl, tw_of 89 (by decide +kernel) rfl⟩
theorem lf_X1_108 : Cond.fieldLink RX1 108 "PlyStacker$Plate" "UPPER_CELLS" "[I" ∈ Tw := tw_of 658 (by decide +kernel) rfl
theorem lf_X1_15 : Cond.fieldLink RX1 15 "PlyStacker$Plate" "cells" "[I" ∈ Tw := tw_of 213 (by decide +kernel) rfl
theorem lf_X1_18 : Cond.fieldLink RX1 18 "PlyStacker$Plate" "rows" "[I" ∈ Tw := tw_of 214 (by decide +kernel) rfl
theorem lf_X1_21 : Cond.fieldLink RX1 21 "PlyStacker$Plate" "sizes" "[I" ∈ Tw := tw_of 216 (by decide +kernel) rfl
theorem lf_X1_24 : Cond.fieldLink RX1 24 "PlyStacker$Plate" "rooms" "[I" ∈ Tw := tw_of 218 (by decide +kernel) rfl
theorem lf_X1_38 : Cond.fieldLink RX1 38 "PlyStacker$Plate" "acts" "I" ∈ Tw := tw_of 229 (by decide +kernel) rfl
theorem lf_X1_67 : Cond.fieldLink RX1 67 "PlyStacker$Plate" "SIGN_TWO" "[I" ∈ Tw := tw_of 525 (by decide +kernel) rfl
theorem lf_X1_70 : Cond.fieldLink RX1 70 "PlyStacker$Plate" "SIGN_THREE" "[I" ∈ Tw := tw_of 527 (by decide +kernel) rfl
theorem lf_X1_73 : Cond.fieldLink RX1 73 "PlyStacker$Plate" "SIGN_SKEW" "[I" ∈ Tw := tw_of 529 (by decide +kernel) rfl
theorem lf_X1_9 : Cond.fieldLink RX1 9 "PlyStacker$Plate" "numbers" "[I" ∈ Tw := tw_of 212 (by decide +kernel) rfl
theorem lf_X3_33 : Cond.fieldLink RX3 33 "PlyStacker$Rows" "ONWARD" "[I" ∈ Tw := tw_of 1163 (by decide +kernel) rfl
theorem lf_X3_41 : Cond.fieldLink RX3 41 "PlyStacker$Rows" "OVERTURNED" "[I" ∈ Tw := tw_of 1173 (by decide +kernel) rfl
theorem lf_X6_47 : Cond.fieldLink RX6 47 "PlyStacker$Ways" "stride" "I" ∈ Tw := tw_of 322 (by decide +kernel) rfl
theorem lf_X6_57 : Cond.fieldLink RX6 57 "PlyStacker$Ways" "all" "I" ∈ Tw := tw_of 321 (by decide +kernel) rfl
theorem lf_X6_9 : Cond.fieldLink RX6 9 "PlyStacker$Ways" "depths" "[I" ∈ Tw := tw_of 320 (by decide +kernel) rfl
theorem lf_X7_30 : Cond.fieldLink RX7 30 "PlyStacker" "now" "LPlyStacker$Plate;" ∈ Tw := tw_of 349 (by decide +kernel) rfl
theorem lf_X7_34 : Cond.fieldLink RX7 34 "PlyStacker" "images" "[LPlyStacker$Plate;" ∈ Tw := tw_of 350 (by decide +kernel) rfl
theorem lm_X1_102 : Cond.methodLink RX1 102 yX1_isRowFlat ∈ Tw := tw_of 654 (by decide +kernel) rfl
theorem lm_X1_105 : Cond.methodLink RX1 105 yX1_isRowStraight ∈ Tw := tw_of 660 (by decide +kernel) rfl
theorem lm_X1_114 : Cond.methodLink RX1 114 yX1_roomNow ∈ Tw := tw_of 993 (by decide +kernel) rfl
theorem lm_X1_117 : Cond.methodLink RX1 117 yX1_shape ∈ Tw := tw_of 994 (by decide +kernel) rfl
theorem lm_X1_51 : Cond.methodLink RX1 51 yX1_plies ∈ Tw := tw_of 590 (by decide +kernel) rfl
theorem lm_X1_55 : Cond.methodLink RX1 55 yX1_row ∈ Tw := tw_of 586 (by decide +kernel) rfl
theorem lm_X1_64 : Cond.methodLink RX1 64 yX1_number ∈ Tw := tw_of 521 (by decide +kernel) rfl
theorem lm_X1_76 : Cond.methodLink RX1 76 yX1_setCell ∈ Tw := tw_of 531 (by decide +kernel) rfl
theorem lm_X1_80 : Cond.methodLink RX1 80 yX1_totalOf ∈ Tw := tw_of 638 (by decide +kernel) rfl
theorem lm_X1_88 : Cond.methodLink RX1 88 yX1_total ∈ Tw := tw_of 676 (by decide +kernel) rfl
theorem lm_X1_92 : Cond.methodLink RX1 92 yJ9_abs_067f4 ∈ Tw := tw_of 677 (by decide +kernel) rfl
theorem lm_X3_15 : Cond.methodLink RX3 15 yX3_angleAt ∈ Tw := tw_of 696 (by decide +kernel) rfl
theorem lm_X3_18 : Cond.methodLink RX3 18 yJ9_max_7cf53 ∈ Tw := tw_of 699 (by decide +kernel) rfl
theorem lm_X3_37 : Cond.methodLink RX3 37 yX3_with ∈ Tw := tw_of 1165 (by decide +kernel) rfl
theorem lm_X3_9 : Cond.methodLink RX3 9 yX3_typeAt ∈ Tw := tw_of 594 (by decide +kernel) rfl
theorem lm_X6_30 : Cond.methodLink RX6 30 yJ6_bitCount_0f7a4 ∈ Tw := tw_of 979 (by decide +kernel) rfl
theorem lm_X6_43 : Cond.methodLink RX6 43 yX6_isThin ∈ Tw := tw_of 980 (by decide +kernel) rfl
theorem lm_X6_51 : Cond.methodLink RX6 51 yJ9_min_7cf53 ∈ Tw := tw_of 1014 (by decide +kernel) rfl
theorem lm_X6_60 : Cond.methodLink RX6 60 yJ7_fill_53178 ∈ Tw := tw_of 1015 (by decide +kernel) rfl
theorem lm_X6_66 : Cond.methodLink RX6 66 yX6_leastDepthAbove ∈ Tw := tw_of 1018 (by decide +kernel) rfl
theorem lm_X6_69 : Cond.methodLink RX6 69 yX6_leads ∈ Tw := tw_of 1022 (by decide +kernel) rfl
theorem lm_X6_73 : Cond.methodLink RX6 73 yX6_steps ∈ Tw := tw_of 1026 (by decide +kernel) rfl
theorem lm_X7_319 : Cond.methodLink RX7 319 yX7_leftWithout ∈ Tw := tw_of 1091 (by decide +kernel) rfl
theorem lm_X7_357 : Cond.methodLink RX7 357 yX7_isImage ∈ Tw := tw_of 1187 (by decide +kernel) rfl
theorem nf_5 : ("PlyStacker", 139, "PlyStacker$Plate", "told", "Z", "PlyStacker") ∈ nestF := List.mem_of_getElem? (i := 5) (by decide +kernel)
theorem nm_101 : ("PlyStacker", 351, yX3_whirled, "PlyStacker") ∈ nestM := List.mem_of_getElem? (i := 101) (by decide +kernel)
theorem nm_102 : ("PlyStacker", 354, yX3_overturned, "PlyStacker") ∈ nestM := List.mem_of_getElem? (i := 102) (by decide +kernel)
theorem nm_17 : ("PlyStacker", 97, yX1_plies, "PlyStacker") ∈ nestM := List.mem_of_getElem? (i := 17) (by decide +kernel)
theorem nm_25 : ("PlyStacker", 132, yX1_row, "PlyStacker") ∈ nestM := List.mem_of_getElem? (i := 25) (by decide +kernel)
theorem nm_27 : ("PlyStacker", 148, yX1_total, "PlyStacker") ∈ nestM := List.mem_of_getElem? (i := 27) (by decide +kernel)
theorem nm_28 : ("PlyStacker$Plate", 84, yX3_thickOf, "PlyStacker") ∈ nestM := List.mem_of_getElem? (i := 28) (by decide +kernel)
theorem nm_30 : ("PlyStacker$Plate", 98, yX3_isMirrored, "PlyStacker") ∈ nestM := List.mem_of_getElem? (i := 30) (by decide +kernel)
theorem nm_32 : ("PlyStacker", 158, yX1_warpWithout, "PlyStacker") ∈ nestM := List.mem_of_getElem? (i := 32) (by decide +kernel)
theorem nm_81 : ("PlyStacker$Ways", 40, yX1_allPlies, "PlyStacker") ∈ nestM := List.mem_of_getElem? (i := 81) (by decide +kernel)
theorem nm_82 : ("PlyStacker$Ways", 15, yX1_row, "PlyStacker") ∈ nestM := List.mem_of_getElem? (i := 82) (by decide +kernel)
theorem nm_83 : ("PlyStacker$Ways", 21, yX1_plies, "PlyStacker") ∈ nestM := List.mem_of_getElem? (i := 83) (by decide +kernel)
theorem nm_84 : ("PlyStacker$Ways", 24, yX3_chosen, "PlyStacker") ∈ nestM := List.mem_of_getElem? (i := 84) (by decide +kernel)
theorem nm_85 : ("PlyStacker$Ways", 36, yX1_suits, "PlyStacker") ∈ nestM := List.mem_of_getElem? (i := 85) (by decide +kernel)
theorem nm_86 : ("PlyStacker$Plate", 111, yX3_longestRun, "PlyStacker") ∈ nestM := List.mem_of_getElem? (i := 86) (by decide +kernel)
theorem uX1 : ∀ w ∈ u_ws RX1 TX1 9, w ∈ Tw := List.all_eq_true.mp (by decide +kernel : (u_ws RX1 TX1 9).all (fun w => decide (w ∈ Tw)) = true) |> fun h w hw => of_decide_eq_true (h w hw)
theorem uX6 : ∀ w ∈ u_ws RX6 TX6 3, w ∈ Tw := List.all_eq_true.mp (by decide +kernel : (u_ws RX6 TX6 3).all (fun w => decide (w ∈ Tw)) = true) |> fun h w hw => of_decide_eq_true (h w hw)
theorem uX7 : ∀ w ∈ u_ws RX7 TX7 7, w ∈ Tw := List.all_eq_true.mp (by decide +kernel : (u_ws RX7 TX7 7).all (fun w => decide (w ∈ Tw)) = true) |> fun h w hw => of_decide_eq_true (h w hw)
-- X1_plies
theorem dX1_plies_0 : decode cX1_plies 0 = .ok (.aload_n 0, 1) := by decide +kernel
theorem dX1_plies_1 : decode cX1_plies 1 = .ok (.getfield 21, 3) := by decide +kernel
theorem dX1_plies_4 : decode cX1_plies 4 = .ok (.aload_n 0, 1) := by decide +kernel
theorem dX1_plies_5 : decode cX1_plies 5 = .ok (.getfield 38, 3) := by decide +kernel
theorem dX1_plies_8 : decode cX1_plies 8 = .ok (.iaload, 1) := by decide +kernel
theorem dX1_plies_9 : decode cX1_plies 9 = .ok (.ireturn, 1) := by decide +kernel
noncomputable def fX1_plies  (t_sizes : Nat → Int32) (t_acts : Int32) : Option (Int32) := chk 31 t_acts (some (t_sizes t_acts.toNatClampNeg))
set_option maxHeartbeats 4000000 in
set_option maxRecDepth 100000 in
theorem ctX1_plies (l : Launch) (g : GT) (a_t : Nat → Nat) (t_told : Int32) (t_lines : Int32) (t_kinds : Int32) (t_acts : Int32) (t_sizes : Nat → Int32) (o : Int32) (h : fX1_plies t_sizes t_acts = some o) : Met l yX1_plies (Cond.code yX1_plies cX1_plies 1 (some .int) :: Tw) ⟨0, 0, 0, 0⟩ (va_Pc [.ref ((a_t 0))] (roB g [((a_t 0), .inr (1, [.ref (a_t 1), .ref (a_t 2), .ref (a_t 3), .ref (a_t 4), .ref (a_t 5), .int t_told, .int t_lines, .int t_kinds, .int t_acts])), ((a_t 4), .inl (g.2.2.1 0, 31, .inl t_sizes))])) (vp_Si (fun x => x = o)) 0 0 (fun _ => False) := by
  refine ro_meti (by decide) (Nat.le_of_ble_eq_true rfl) (lv0 := [(0, .ref ((a_t 0)))]) rfl ?_
  intro p e s m args below meth c ls Q cx hret hG hP hl
  have hx := cx.1
  have hb := cx.2.1
  have hG0 := hG
  unfold fX1_plies at h
  refine lv_aload_n hx hb dX1_plies_0 rfl (lv_at hl 0 rfl) ?_
  refine xa_get (C := RX1) (T := TX1) (N := 9) cx hG hP 0 rfl rfl uX1 3 (by decide) lf_X1_21 rfl dX1_plies_1 ?_
  refine lv_aload_n hx hb dX1_plies_4 rfl (lv_at hl 0 rfl) ?_
  refine xa_get (C := RX1) (T := TX1) (N := 9) cx hG hP 0 rfl rfl uX1 8 (by decide) lf_X1_38 rfl dX1_plies_5 ?_
  obtain ⟨hi1, h⟩ := chk_out h
  refine xa_iald cx hG hP 1 rfl hi1 rfl dX1_plies_8 ?_
  exact hret _ _ _ dX1_plies_9 (Option.some.inj h)
-- X1_allPlies
theorem dX1_allPlies_0 : decode cX1_allPlies 0 = .ok (.iconst 1, 1) := by decide +kernel
theorem dX1_allPlies_1 : decode cX1_allPlies 1 = .ok (.aload_n 0, 1) := by decide +kernel
theorem dX1_allPlies_2 : decode cX1_allPlies 2 = .ok (.invokevirtual 51, 3) := by decide +kernel
theorem dX1_allPlies_5 : decode cX1_allPlies 5 = .ok (.ishl, 1) := by decide +kernel
theorem dX1_allPlies_6 : decode cX1_allPlies 6 = .ok (.iconst 1, 1) := by decide +kernel
theorem dX1_allPlies_7 : decode cX1_allPlies 7 = .ok (.isub, 1) := by decide +kernel
theorem dX1_allPlies_8 : decode cX1_allPlies 8 = .ok (.ireturn, 1) := by decide +kernel
noncomputable def fX1_allPlies  (t_sizes : Nat → Int32) (t_acts : Int32) : Option (Int32) := (fX1_plies t_sizes t_acts).bind fun r1 => some ((1 <<< (r1 &&& 31)) - 1)
set_option maxHeartbeats 4000000 in
set_option maxRecDepth 100000 in
theorem ctX1_allPlies (l : Launch) (g : GT) (a_t : Nat → Nat) (t_told : Int32) (t_lines : Int32) (t_kinds : Int32) (t_acts : Int32) (t_sizes : Nat → Int32) (o : Int32) (h : fX1_allPlies t_sizes t_acts = some o) : Met l yX1_allPlies (Cond.code yX1_allPlies cX1_allPlies 1 (some .int) :: Tw) ⟨1, 0, 0, 20⟩ (va_Pc [.ref ((a_t 0))] (roB g [((a_t 0), .inr (1, [.ref (a_t 1), .ref (a_t 2), .ref (a_t 3), .ref (a_t 4), .ref (a_t 5), .int t_told, .int t_lines, .int t_kinds, .int t_acts])), ((a_t 4), .inl (g.2.2.1 0, 31, .inl t_sizes))])) (vp_Si (fun x => x = o)) 0 0 (fun _ => False) := by
  refine ro_meti (by decide) (Nat.le_of_ble_eq_true rfl) (lv0 := [(0, .ref ((a_t 0)))]) rfl ?_
  intro p e s m args below meth c ls Q cx hret hG hP hl
  have hx := cx.1
  have hb := cx.2.1
  have hG0 := hG
  unfold fX1_allPlies at h
  refine lv_iconst (v := 1) hx hb dX1_allPlies_0 (by decide) ?_
  refine lv_aload_n hx hb dX1_allPlies_1 rfl (lv_at hl 0 rfl) ?_
  obtain ⟨r1, hr2, h⟩ := bnd h
  refine ro_i (runV (As := []) (rest := [.int (1)]) cx hl.1 (ctX1_plies l g a_t t_told t_lines t_kinds t_acts t_sizes r1 hr2) kmX1_plies kvX1_plies lm_X1_51 ⟨rfl, rfl⟩ ⟨Nat.le_of_ble_eq_true rfl, Nat.le_of_ble_eq_true rfl⟩ (roV (q0 := 0) (ci := 1) hG (hP.sub [0, 1] rfl) hP rfl rfl) rfl rfl (Nat.le_of_ble_eq_true rfl) dX1_allPlies_2 ⟨Nat.le_of_ble_eq_true rfl, Nat.le_of_ble_eq_true rfl⟩) ?_
  refine lv_ishl hx hb dX1_allPlies_5 ?_
  refine lv_iconst (v := 1) hx hb dX1_allPlies_6 (by decide) ?_
  refine lv_isub hx hb dX1_allPlies_7 ?_
  exact hret _ _ _ dX1_allPlies_8 (Option.some.inj h)
-- J7_fill_53178
theorem dJ7_fill_53178_0 : decode cJ7_fill_53178 0 = .ok (.iconst 0, 1) := by decide +kernel
theorem dJ7_fill_53178_1 : decode cJ7_fill_53178 1 = .ok (.istore_n 2, 1) := by decide +kernel
theorem dJ7_fill_53178_2 : decode cJ7_fill_53178 2 = .ok (.aload_n 0, 1) := by decide +kernel
theorem dJ7_fill_53178_3 : decode cJ7_fill_53178 3 = .ok (.arraylength, 1) := by decide +kernel
theorem dJ7_fill_53178_4 : decode cJ7_fill_53178 4 = .ok (.istore_n 3, 1) := by decide +kernel
theorem dJ7_fill_53178_5 : decode cJ7_fill_53178 5 = .ok (.iload_n 2, 1) := by decide +kernel
theorem dJ7_fill_53178_6 : decode cJ7_fill_53178 6 = .ok (.iload_n 3, 1) := by decide +kernel
theorem dJ7_fill_53178_7 : decode cJ7_fill_53178 7 = .ok (.if_icmp .ge 13, 3) := by decide +kernel
theorem dJ7_fill_53178_10 : decode cJ7_fill_53178 10 = .ok (.aload_n 0, 1) := by decide +kernel
theorem dJ7_fill_53178_11 : decode cJ7_fill_53178 11 = .ok (.iload_n 2, 1) := by decide +kernel
theorem dJ7_fill_53178_12 : decode cJ7_fill_53178 12 = .ok (.iload_n 1, 1) := by decide +kernel
theorem dJ7_fill_53178_13 : decode cJ7_fill_53178 13 = .ok (.iastore, 1) := by decide +kernel
theorem dJ7_fill_53178_14 : decode cJ7_fill_53178 14 = .ok (.iinc 2 1, 3) := by decide +kernel
theorem dJ7_fill_53178_17 : decode cJ7_fill_53178 17 = .ok (.goto (-12), 3) := by decide +kernel
theorem dJ7_fill_53178_20 : decode cJ7_fill_53178 20 = .ok (.return_, 1) := by decide +kernel
noncomputable def fJ7_fill_53178_5  : Nat → Nat → (Nat → Int32) → Int32 → Int32 → Int32 → Option ((Nat → Int32))
  | 0, _, _, _, _, _ => none
  | n + 1, p1_n, p1, v1, v2, v3 => (if v3 ≤ v2 then some p1 else chk p1_n v2 (fJ7_fill_53178_5 n p1_n (upd p1 v2.toNatClampNeg v1) v1 (v2 + 1) v3))
theorem fJ7_fill_53178_5_z  (p1_n : Nat) (p1 : Nat → Int32) (v1 : Int32) (v2 : Int32) (v3 : Int32) : fJ7_fill_53178_5  0 p1_n p1 v1 v2 v3 = none := rfl
theorem fJ7_fill_53178_5_s  (n : Nat) (p1_n : Nat) (p1 : Nat → Int32) (v1 : Int32) (v2 : Int32) (v3 : Int32) : fJ7_fill_53178_5  (n + 1) p1_n p1 v1 v2 v3 = (if v3 ≤ v2 then some p1 else chk p1_n v2 (fJ7_fill_53178_5 n p1_n (upd p1 v2.toNatClampNeg v1) v1 (v2 + 1) v3)) := rfl
noncomputable def fJ7_fill_53178  (p1_n : Nat) (p1 : Nat → Int32) (v1 : Int32) : Option ((Nat → Int32)) := fJ7_fill_53178_5 FU p1_n p1 v1 0 (nI p1_n)
set_option maxHeartbeats 4000000 in
set_option maxRecDepth 100000 in
theorem ctJ7_fill_53178 (l : Launch) (g : GT) (sz : Nat) (b_p1 : Nat) (p1_n : Nat) (p1 : Nat → Int32) (v1 : Int32) (o_p1 : Nat → Int32) (h : fJ7_fill_53178 p1_n p1 v1 = some (o_p1)) : Met l yJ7_fill_53178 (Cond.code yJ7_fill_53178 cJ7_fill_53178 4 none :: Tw) ⟨0, 0, 0, 0⟩ (va_Pc [.ref b_p1, .int v1] (rwB g [(b_p1, .inl (g.2.2.1 0, p1_n, .inl p1))] sz)) (va_Qv (fun (_ : Nat → Nat) => True) (fun u => rwE g (va_A [(b_p1, .inl (g.2.2.1 0, p1_n, .inl p1))] sz) [(b_p1, .inl (g.2.2.1 0, p1_n, .inl o_p1))]) (va_A [(b_p1, .inl (g.2.2.1 0, p1_n, .inl p1))] sz)) 0 0 (va_A [(b_p1, .inl (g.2.2.1 0, p1_n, .inl p1))] sz) := by
  refine rw_metv (by decide) (Nat.le_of_ble_eq_true rfl) (lv0 := [(0, .ref b_p1), (1, .int v1)]) rfl ?_
  intro p e s m args below meth c ls Q A cx hret hG hAb hb0 hA hP hD hl
  have hx := cx.1
  have hb := cx.2.1
  have hG0 := hG
  have hGk : ∀ {H : Heap} {locs : List Loc}, va_S A s.heap H locs → GE g s H := fun hS => hG0.keptS hAb hS
  have hSb : ∀ {H : Heap} {locs : List Loc}, va_S A s.heap H locs → va_S (fun a => g.1 ≤ a) s.heap H locs := fun hS => ⟨hS.1, fun q h1 h2 => hS.2.1 q h1 (fun z => h2 (hAb q z)), fun l hl => hAb _ (hS.2.2 l hl)⟩
  have hS : va_S A s.heap s.heap [] := va_S.rf
  have w5 : ∀ (n : Nat) (p1 : Nat → Int32) (v1 : Int32) (v2 : Int32) (v3 : Int32) (H : Heap) (locs : List Loc), va_P g.2.1 vwCl [(b_p1, .inl (g.2.2.1 0, p1_n, .inl p1))] H → va_D A [(b_p1, .inl (g.2.2.1 0, p1_n, .inl p1))] → va_S A s.heap H locs → ∀ (ls : Array Slot), lv_has ls 4 [(0, .ref b_p1), (1, .int v1), (2, .int v2), (3, .int v3)] → fJ7_fill_53178_5  n p1_n p1 v1 v2 v3 = some (o_p1) → W p l e ⟨0, 0, 0, 0⟩ s m args below meth c H locs 0 0 Q (F0 m 5 ls []) := by
    intro n
    induction n with
    | zero => intro p1 v1 v2 v3 H locs hP hD hS ls hl h; cases (fJ7_fill_53178_5_z  p1_n p1 v1 v2 v3).symm.trans h
    | succ n ih =>
    intro p1 v1 v2 v3 H locs hP hD hS ls hl h
    have h := (fJ7_fill_53178_5_s  n p1_n p1 v1 v2 v3).symm.trans h
    have hG := hGk hS
    refine lv_iload_n hx hb dJ7_fill_53178_5 rfl (lv_at hl 2 rfl) ?_
    refine lv_iload_n hx hb dJ7_fill_53178_6 rfl (lv_at hl 3 rfl) ?_
    refine lv_icmp_ge (tgt := 20) hx hb dJ7_fill_53178_7 (by decide) (fun c1 => ?_) (fun c1 => ?_)
    · have h := itp c1 h
      cases h
      exact hret (fun _ => 0) _ _ _ _ dJ7_fill_53178_20 (hP.sub [0] rfl) (hD.sub [0] (by decide) rfl) hS
    · have h := itn c1 h
      refine lv_aload_n hx hb dJ7_fill_53178_10 rfl (lv_at hl 0 rfl) ?_
      refine lv_iload_n hx hb dJ7_fill_53178_11 rfl (lv_at hl 2 rfl) ?_
      refine lv_iload_n hx hb dJ7_fill_53178_12 rfl (lv_at hl 1 rfl) ?_
      obtain ⟨hi2, h⟩ := chk_out h
      refine xw_iast (ws' := [(b_p1, .inl (g.2.2.1 0, p1_n, .inl (upd p1 v2.toNatClampNeg v1)))]) (k := v2.toNatClampNeg) cx hG hP hD hS 0 rfl hi2 rfl rfl dJ7_fill_53178_13 (fun H locs hP hD hS => ?_)
      have hG := hGk hS
      refine lv_iinc (v := v2 + 1) (lv' := [(2, .int (v2 + 1)), (0, .ref b_p1), (1, .int v1), (3, .int v3)]) hx hb dJ7_fill_53178_14 hl (k := 2) rfl rfl (by decide) rfl (fun ls hl => ?_)
      refine lv_goto (tgt := 5) hx hb dJ7_fill_53178_17 (by decide) ?_
      exact ih (upd p1 v2.toNatClampNeg v1) v1 (v2 + 1) v3 _ _ hP hD hS _ (lv_sub hl [1, 2, 0, 3] rfl) h
  unfold fJ7_fill_53178 at h
  refine lv_iconst (v := 0) hx hb dJ7_fill_53178_0 (by decide) ?_
  refine lv_istore_n (lv' := [(2, .int (0)), (0, .ref b_p1), (1, .int v1)]) hx hb dJ7_fill_53178_1 rfl hl (by decide) rfl (fun ls hl => ?_)
  refine lv_aload_n hx hb dJ7_fill_53178_2 rfl (lv_at hl 1 rfl) ?_
  refine xa_len cx hG hP 0 rfl 0 rfl (v := nI p1_n) rfl dJ7_fill_53178_3 ?_
  refine lv_istore_n (lv' := [(3, .int (nI p1_n)), (2, .int (0)), (0, .ref b_p1), (1, .int v1)]) hx hb dJ7_fill_53178_4 rfl hl (by decide) rfl (fun ls hl => ?_)
  exact w5 FU p1 v1 0 (nI p1_n) _ _ hP hD hS _ (lv_sub hl [2, 3, 1, 0] rfl) h
-- X1_row
theorem dX1_row_0 : decode cX1_row 0 = .ok (.aload_n 0, 1) := by decide +kernel
theorem dX1_row_1 : decode cX1_row 1 = .ok (.getfield 18, 3) := by decide +kernel
theorem dX1_row_4 : decode cX1_row 4 = .ok (.aload_n 0, 1) := by decide +kernel
theorem dX1_row_5 : decode cX1_row 5 = .ok (.getfield 38, 3) := by decide +kernel
theorem dX1_row_8 : decode cX1_row 8 = .ok (.iaload, 1) := by decide +kernel
theorem dX1_row_9 : decode cX1_row 9 = .ok (.ireturn, 1) := by decide +kernel
noncomputable def fX1_row  (t_rows : Nat → Int32) (t_acts : Int32) : Option (Int32) := chk 31 t_acts (some (t_rows t_acts.toNatClampNeg))
set_option maxHeartbeats 4000000 in
set_option maxRecDepth 100000 in
theorem ctX1_row (l : Launch) (g : GT) (a_t : Nat → Nat) (t_told : Int32) (t_lines : Int32) (t_kinds : Int32) (t_acts : Int32) (t_rows : Nat → Int32) (o : Int32) (h : fX1_row t_rows t_acts = some o) : Met l yX1_row (Cond.code yX1_row cX1_row 1 (some .int) :: Tw) ⟨0, 0, 0, 0⟩ (va_Pc [.ref ((a_t 0))] (roB g [((a_t 0), .inr (1, [.ref (a_t 1), .ref (a_t 2), .ref (a_t 3), .ref (a_t 4), .ref (a_t 5), .int t_told, .int t_lines, .int t_kinds, .int t_acts])), ((a_t 3), .inl (g.2.2.1 0, 31, .inl t_rows))])) (vp_Si (fun x => x = o)) 0 0 (fun _ => False) := by
  refine ro_meti (by decide) (Nat.le_of_ble_eq_true rfl) (lv0 := [(0, .ref ((a_t 0)))]) rfl ?_
  intro p e s m args below meth c ls Q cx hret hG hP hl
  have hx := cx.1
  have hb := cx.2.1
  have hG0 := hG
  unfold fX1_row at h
  refine lv_aload_n hx hb dX1_row_0 rfl (lv_at hl 0 rfl) ?_
  refine xa_get (C := RX1) (T := TX1) (N := 9) cx hG hP 0 rfl rfl uX1 2 (by decide) lf_X1_18 rfl dX1_row_1 ?_
  refine lv_aload_n hx hb dX1_row_4 rfl (lv_at hl 0 rfl) ?_
  refine xa_get (C := RX1) (T := TX1) (N := 9) cx hG hP 0 rfl rfl uX1 8 (by decide) lf_X1_38 rfl dX1_row_5 ?_
  obtain ⟨hi1, h⟩ := chk_out h
  refine xa_iald cx hG hP 1 rfl hi1 rfl dX1_row_8 ?_
  exact hret _ _ _ dX1_row_9 (Option.some.inj h)
-- X3_typeAt
theorem dX3_typeAt_0 : decode cX3_typeAt 0 = .ok (.iload_n 0, 1) := by decide +kernel
theorem dX3_typeAt_1 : decode cX3_typeAt 1 = .ok (.iconst 4, 1) := by decide +kernel
theorem dX3_typeAt_2 : decode cX3_typeAt 2 = .ok (.iload_n 1, 1) := by decide +kernel
theorem dX3_typeAt_3 : decode cX3_typeAt 3 = .ok (.imul, 1) := by decide +kernel
theorem dX3_typeAt_4 : decode cX3_typeAt 4 = .ok (.iushr, 1) := by decide +kernel
theorem dX3_typeAt_5 : decode cX3_typeAt 5 = .ok (.bipush 15, 2) := by decide +kernel
theorem dX3_typeAt_7 : decode cX3_typeAt 7 = .ok (.iand, 1) := by decide +kernel
theorem dX3_typeAt_8 : decode cX3_typeAt 8 = .ok (.ireturn, 1) := by decide +kernel
noncomputable def fX3_typeAt  (v0 : Int32) (v1 : Int32) : Int32 := ((iushr v0 (4 * v1)) &&& 15)
set_option maxHeartbeats 4000000 in
set_option maxRecDepth 100000 in
theorem ctX3_typeAt (l : Launch) (g : GT) (v0 : Int32) (v1 : Int32) (o : Int32) (h : fX3_typeAt v0 v1 = o) : Met l yX3_typeAt (Cond.code yX3_typeAt cX3_typeAt 2 (some .int) :: Tw) ⟨0, 0, 0, 0⟩ (va_Pc [.int v0, .int v1] (roB g [])) (vp_Si (fun x => x = o)) 0 0 (fun _ => False) := by
  refine ro_meti (by decide) (Nat.le_of_ble_eq_true rfl) (lv0 := [(0, .int v0), (1, .int v1)]) rfl ?_
  intro p e s m args below meth c ls Q cx hret hG hP hl
  have hx := cx.1
  have hb := cx.2.1
  have hG0 := hG
  unfold fX3_typeAt at h
  refine lv_iload_n hx hb dX3_typeAt_0 rfl (lv_at hl 0 rfl) ?_
  refine lv_iconst (v := 4) hx hb dX3_typeAt_1 (by decide) ?_
  refine lv_iload_n hx hb dX3_typeAt_2 rfl (lv_at hl 1 rfl) ?_
  refine lv_imul hx hb dX3_typeAt_3 ?_
  refine lv_iushr (v := iushr v0 (4 * v1)) hx hb dX3_typeAt_4 rfl ?_
  refine lv_bipush (v := 15) hx hb dX3_typeAt_5 (by decide) ?_
  refine lv_iand hx hb dX3_typeAt_7 ?_
  exact hret _ _ _ dX3_typeAt_8 h
-- X3_chosen
theorem dX3_chosen_0 : decode cX3_chosen 0 = .ok (.iconst 0, 1) := by decide +kernel
theorem dX3_chosen_1 : decode cX3_chosen 1 = .ok (.istore_n 3, 1) := by decide +kernel
theorem dX3_chosen_2 : decode cX3_chosen 2 = .ok (.iconst 0, 1) := by decide +kernel
theorem dX3_chosen_3 : decode cX3_chosen 3 = .ok (.istore 4, 2) := by decide +kernel
theorem dX3_chosen_5 : decode cX3_chosen 5 = .ok (.iconst 0, 1) := by decide +kernel
theorem dX3_chosen_6 : decode cX3_chosen 6 = .ok (.istore 5, 2) := by decide +kernel
theorem dX3_chosen_8 : decode cX3_chosen 8 = .ok (.iload 5, 2) := by decide +kernel
theorem dX3_chosen_10 : decode cX3_chosen 10 = .ok (.iload_n 1, 1) := by decide +kernel
theorem dX3_chosen_11 : decode cX3_chosen 11 = .ok (.if_icmp .ge 35, 3) := by decide +kernel
theorem dX3_chosen_14 : decode cX3_chosen 14 = .ok (.iload_n 2, 1) := by decide +kernel
theorem dX3_chosen_15 : decode cX3_chosen 15 = .ok (.iload 5, 2) := by decide +kernel
theorem dX3_chosen_17 : decode cX3_chosen 17 = .ok (.ishr, 1) := by decide +kernel
theorem dX3_chosen_18 : decode cX3_chosen 18 = .ok (.iconst 1, 1) := by decide +kernel
theorem dX3_chosen_19 : decode cX3_chosen 19 = .ok (.iand, 1) := by decide +kernel
theorem dX3_chosen_20 : decode cX3_chosen 20 = .ok (.ifCond .eq 20, 3) := by decide +kernel
theorem dX3_chosen_23 : decode cX3_chosen 23 = .ok (.iload_n 3, 1) := by decide +kernel
theorem dX3_chosen_24 : decode cX3_chosen 24 = .ok (.iload_n 0, 1) := by decide +kernel
theorem dX3_chosen_25 : decode cX3_chosen 25 = .ok (.iload 5, 2) := by decide +kernel
theorem dX3_chosen_27 : decode cX3_chosen 27 = .ok (.invokestatic 9, 3) := by decide +kernel
theorem dX3_chosen_30 : decode cX3_chosen 30 = .ok (.iconst 4, 1) := by decide +kernel
theorem dX3_chosen_31 : decode cX3_chosen 31 = .ok (.iload 4, 2) := by decide +kernel
theorem dX3_chosen_33 : decode cX3_chosen 33 = .ok (.imul, 1) := by decide +kernel
theorem dX3_chosen_34 : decode cX3_chosen 34 = .ok (.ishl, 1) := by decide +kernel
theorem dX3_chosen_35 : decode cX3_chosen 35 = .ok (.ior, 1) := by decide +kernel
theorem dX3_chosen_36 : decode cX3_chosen 36 = .ok (.istore_n 3, 1) := by decide +kernel
theorem dX3_chosen_37 : decode cX3_chosen 37 = .ok (.iinc 4 1, 3) := by decide +kernel
theorem dX3_chosen_40 : decode cX3_chosen 40 = .ok (.iinc 5 1, 3) := by decide +kernel
theorem dX3_chosen_43 : decode cX3_chosen 43 = .ok (.goto (-35), 3) := by decide +kernel
theorem dX3_chosen_46 : decode cX3_chosen 46 = .ok (.iload_n 3, 1) := by decide +kernel
theorem dX3_chosen_47 : decode cX3_chosen 47 = .ok (.ireturn, 1) := by decide +kernel
noncomputable def fX3_chosen_40 (k8 : Int32 → Int32 → Int32 → Int32 → Int32 → Int32 → Option (Int32)) (v0 : Int32) (v1 : Int32) (v2 : Int32) (v3 : Int32) (v4 : Int32) (v5 : Int32) : Option (Int32) := k8 v0 v1 v2 v3 v4 (v5 + 1)
noncomputable def fX3_chosen_8  : Nat → Int32 → Int32 → Int32 → Int32 → Int32 → Int32 → Option (Int32)
  | 0, _, _, _, _, _, _ => none
  | n + 1, v0, v1, v2, v3, v4, v5 => (if v1 ≤ v5 then some v3 else (if ((v2 >>> (v5 &&& 31)) &&& 1) = 0 then fX3_chosen_40 (fX3_chosen_8 n) v0 v1 v2 v3 v4 v5 else fX3_chosen_40 (fX3_chosen_8 n) v0 v1 v2 (v3 ||| ((fX3_typeAt v0 v5) <<< ((4 * v4) &&& 31))) (v4 + 1) v5))
theorem fX3_chosen_8_z  (v0 : Int32) (v1 : Int32) (v2 : Int32) (v3 : Int32) (v4 : Int32) (v5 : Int32) : fX3_chosen_8  0 v0 v1 v2 v3 v4 v5 = none := rfl
theorem fX3_chosen_8_s  (n : Nat) (v0 : Int32) (v1 : Int32) (v2 : Int32) (v3 : Int32) (v4 : Int32) (v5 : Int32) : fX3_chosen_8  (n + 1) v0 v1 v2 v3 v4 v5 = (if v1 ≤ v5 then some v3 else (if ((v2 >>> (v5 &&& 31)) &&& 1) = 0 then fX3_chosen_40 (fX3_chosen_8 n) v0 v1 v2 v3 v4 v5 else fX3_chosen_40 (fX3_chosen_8 n) v0 v1 v2 (v3 ||| ((fX3_typeAt v0 v5) <<< ((4 * v4) &&& 31))) (v4 + 1) v5)) := rfl
noncomputable def fX3_chosen  (v0 : Int32) (v1 : Int32) (v2 : Int32) : Option (Int32) := fX3_chosen_8 FU v0 v1 v2 0 0 0
set_option maxHeartbeats 4000000 in
set_option maxRecDepth 100000 in
theorem ctX3_chosen (l : Launch) (g : GT) (v0 : Int32) (v1 : Int32) (v2 : Int32) (o : Int32) (h : fX3_chosen v0 v1 v2 = some o) : Met l yX3_chosen (Cond.code yX3_chosen cX3_chosen 6 (some .int) :: Tw) ⟨1, 0, 0, 21⟩ (va_Pc [.int v0, .int v1, .int v2] (roB g [])) (vp_Si (fun x => x = o)) 0 0 (fun _ => False) := by
  refine ro_meti (by decide) (Nat.le_of_ble_eq_true rfl) (lv0 := [(0, .int v0), (1, .int v1), (2, .int v2)]) rfl ?_
  intro p e s m args below meth c ls Q cx hret hG hP hl
  have hx := cx.1
  have hb := cx.2.1
  have hG0 := hG
  have w40 : ∀ (k8 : Int32 → Int32 → Int32 → Int32 → Int32 → Int32 → Option (Int32)) (hk8 : ∀ (v0 : Int32) (v1 : Int32) (v2 : Int32) (v3 : Int32) (v4 : Int32) (v5 : Int32) (ls : Array Slot), lv_has ls 6 [(0, .int v0), (1, .int v1), (2, .int v2), (3, .int v3), (4, .int v4), (5, .int v5)] → k8 v0 v1 v2 v3 v4 v5 = some o → W p l e ⟨1, 0, 0, 21⟩ s m args below meth c s.heap [] 0 0 Q (F0 m 8 ls [])) (v0 : Int32) (v1 : Int32) (v2 : Int32) (v3 : Int32) (v4 : Int32) (v5 : Int32) (ls : Array Slot), lv_has ls 6 [(0, .int v0), (1, .int v1), (2, .int v2), (3, .int v3), (4, .int v4), (5, .int v5)] → fX3_chosen_40 k8 v0 v1 v2 v3 v4 v5 = some o → W p l e ⟨1, 0, 0, 21⟩ s m args below meth c s.heap [] 0 0 Q (F0 m 40 ls []) := by
    intro k8 hk8 v0 v1 v2 v3 v4 v5 ls hl h
    unfold fX3_chosen_40 at h
    refine lv_iinc (v := v5 + 1) (lv' := [(5, .int (v5 + 1)), (0, .int v0), (1, .int v1), (2, .int v2), (3, .int v3), (4, .int v4)]) hx hb dX3_chosen_40 hl (k := 5) rfl rfl (by decide) rfl (fun ls hl => ?_)
    refine lv_goto (tgt := 8) hx hb dX3_chosen_43 (by decide) ?_
    exact hk8 v0 v1 v2 v3 v4 (v5 + 1) _ (lv_sub hl [1, 2, 3, 4, 5, 0] rfl) h
  have w8 : ∀ (n : Nat) (v0 : Int32) (v1 : Int32) (v2 : Int32) (v3 : Int32) (v4 : Int32) (v5 : Int32) (ls : Array Slot), lv_has ls 6 [(0, .int v0), (1, .int v1), (2, .int v2), (3, .int v3), (4, .int v4), (5, .int v5)] → fX3_chosen_8  n v0 v1 v2 v3 v4 v5 = some o → W p l e ⟨1, 0, 0, 21⟩ s m args below meth c s.heap [] 0 0 Q (F0 m 8 ls []) := by
    intro n
    induction n with
    | zero => intro v0 v1 v2 v3 v4 v5 ls hl h; cases (fX3_chosen_8_z  v0 v1 v2 v3 v4 v5).symm.trans h
    | succ n ih =>
    intro v0 v1 v2 v3 v4 v5 ls hl h
    have h := (fX3_chosen_8_s  n v0 v1 v2 v3 v4 v5).symm.trans h
    refine lv_iload hx hb dX3_chosen_8 (lv_at hl 5 rfl) ?_
    refine lv_iload_n hx hb dX3_chosen_10 rfl (lv_at hl 1 rfl) ?_
    refine lv_icmp_ge (tgt := 46) hx hb dX3_chosen_11 (by decide) (fun c1 => ?_) (fun c1 => ?_)
    · have h := itp c1 h
      refine lv_iload_n hx hb dX3_chosen_46 rfl (lv_at hl 3 rfl) ?_
      exact hret _ _ _ dX3_chosen_47 (Option.some.inj h)
    · have h := itn c1 h
      refine lv_iload_n hx hb dX3_chosen_14 rfl (lv_at hl 2 rfl) ?_
      refine lv_iload hx hb dX3_chosen_15 (lv_at hl 5 rfl) ?_
      refine lv_ishr hx hb dX3_chosen_17 ?_
      refine lv_iconst (v := 1) hx hb dX3_chosen_18 (by decide) ?_
      refine lv_iand hx hb dX3_chosen_19 ?_
      refine lv_if_eq (tgt := 40) hx hb dX3_chosen_20 (by decide) (fun c2 => ?_) (fun c2 => ?_)
      · have h := itp c2 h
        exact w40 _ ih v0 v1 v2 v3 v4 v5 _ (lv_sub hl [0, 1, 2, 3, 4, 5] rfl) h
      · have h := itn c2 h
        refine lv_iload_n hx hb dX3_chosen_23 rfl (lv_at hl 3 rfl) ?_
        refine lv_iload_n hx hb dX3_chosen_24 rfl (lv_at hl 0 rfl) ?_
        refine lv_iload hx hb dX3_chosen_25 (lv_at hl 5 rfl) ?_
        refine ro_i (runS (As := [.int v0, .int v5]) (rest := [.int v3]) cx hl.1 (ctX3_typeAt l g v0 v5 (fX3_typeAt v0 v5) rfl) kmX3_typeAt ksX3_typeAt lm_X3_9 ⟨rfl, rfl⟩ ⟨Nat.le_of_ble_eq_true rfl, Nat.le_of_ble_eq_true rfl⟩ (roS hG (hP.sub [] rfl)) rfl rfl (Nat.le_of_ble_eq_true rfl) dX3_chosen_27 ⟨Nat.le_of_ble_eq_true rfl, Nat.le_of_ble_eq_true rfl⟩) ?_
        refine lv_iconst (v := 4) hx hb dX3_chosen_30 (by decide) ?_
        refine lv_iload hx hb dX3_chosen_31 (lv_at hl 4 rfl) ?_
        refine lv_imul hx hb dX3_chosen_33 ?_
        refine lv_ishl hx hb dX3_chosen_34 ?_
        refine lv_ior hx hb dX3_chosen_35 ?_
        refine lv_istore_n (lv' := [(3, .int (v3 ||| ((fX3_typeAt v0 v5) <<< ((4 * v4) &&& 31)))), (0, .int v0), (1, .int v1), (2, .int v2), (4, .int v4), (5, .int v5)]) hx hb dX3_chosen_36 rfl hl (by decide) rfl (fun ls hl => ?_)
        refine lv_iinc (v := v4 + 1) (lv' := [(4, .int (v4 + 1)), (3, .int (v3 ||| ((fX3_typeAt v0 v5) <<< ((4 * v4) &&& 31)))), (0, .int v0), (1, .int v1), (2, .int v2), (5, .int v5)]) hx hb dX3_chosen_37 hl (k := 4) rfl rfl (by decide) rfl (fun ls hl => ?_)
        exact w40 _ ih v0 v1 v2 (v3 ||| ((fX3_typeAt v0 v5) <<< ((4 * v4) &&& 31))) (v4 + 1) v5 _ (lv_sub hl [2, 3, 4, 1, 0, 5] rfl) h
  unfold fX3_chosen at h
  refine lv_iconst (v := 0) hx hb dX3_chosen_0 (by decide) ?_
  refine lv_istore_n (lv' := [(3, .int (0)), (0, .int v0), (1, .int v1), (2, .int v2)]) hx hb dX3_chosen_1 rfl hl (by decide) rfl (fun ls hl => ?_)
  refine lv_iconst (v := 0) hx hb dX3_chosen_2 (by decide) ?_
  refine lv_istore (lv' := [(4, .int (0)), (3, .int (0)), (0, .int v0), (1, .int v1), (2, .int v2)]) hx hb dX3_chosen_3 hl (by decide) rfl (fun ls hl => ?_)
  refine lv_iconst (v := 0) hx hb dX3_chosen_5 (by decide) ?_
  refine lv_istore (lv' := [(5, .int (0)), (4, .int (0)), (3, .int (0)), (0, .int v0), (1, .int v1), (2, .int v2)]) hx hb dX3_chosen_6 hl (by decide) rfl (fun ls hl => ?_)
  exact w8 FU v0 v1 v2 0 0 0 _ (lv_sub hl [3, 4, 5, 2, 1, 0] rfl) h
-- J6_bitCount_0f7a4
theorem dJ6_bitCount_0f7a4_0 : decode cJ6_bitCount_0f7a4 0 = .ok (.iload_n 0, 1) := by decide +kernel
theorem dJ6_bitCount_0f7a4_1 : decode cJ6_bitCount_0f7a4 1 = .ok (.iload_n 0, 1) := by decide +kernel
theorem dJ6_bitCount_0f7a4_2 : decode cJ6_bitCount_0f7a4 2 = .ok (.iconst 1, 1) := by decide +kernel
theorem dJ6_bitCount_0f7a4_3 : decode cJ6_bitCount_0f7a4 3 = .ok (.iushr, 1) := by decide +kernel
theorem dJ6_bitCount_0f7a4_4 : decode cJ6_bitCount_0f7a4 4 = .ok (.ldc_w 265, 3) := by decide +kernel
theorem dJ6_bitCount_0f7a4_7 : decode cJ6_bitCount_0f7a4 7 = .ok (.iand, 1) := by decide +kernel
theorem dJ6_bitCount_0f7a4_8 : decode cJ6_bitCount_0f7a4 8 = .ok (.isub, 1) := by decide +kernel
theorem dJ6_bitCount_0f7a4_9 : decode cJ6_bitCount_0f7a4 9 = .ok (.istore_n 0, 1) := by decide +kernel
theorem dJ6_bitCount_0f7a4_10 : decode cJ6_bitCount_0f7a4 10 = .ok (.iload_n 0, 1) := by decide +kernel
theorem dJ6_bitCount_0f7a4_11 : decode cJ6_bitCount_0f7a4 11 = .ok (.ldc_w 266, 3) := by decide +kernel
theorem dJ6_bitCount_0f7a4_14 : decode cJ6_bitCount_0f7a4 14 = .ok (.iand, 1) := by decide +kernel
theorem dJ6_bitCount_0f7a4_15 : decode cJ6_bitCount_0f7a4 15 = .ok (.iload_n 0, 1) := by decide +kernel
theorem dJ6_bitCount_0f7a4_16 : decode cJ6_bitCount_0f7a4 16 = .ok (.iconst 2, 1) := by decide +kernel
theorem dJ6_bitCount_0f7a4_17 : decode cJ6_bitCount_0f7a4 17 = .ok (.iushr, 1) := by decide +kernel
theorem dJ6_bitCount_0f7a4_18 : decode cJ6_bitCount_0f7a4 18 = .ok (.ldc_w 266, 3) := by decide +kernel
theorem dJ6_bitCount_0f7a4_21 : decode cJ6_bitCount_0f7a4 21 = .ok (.iand, 1) := by decide +kernel
theorem dJ6_bitCount_0f7a4_22 : decode cJ6_bitCount_0f7a4 22 = .ok (.iadd, 1) := by decide +kernel
theorem dJ6_bitCount_0f7a4_23 : decode cJ6_bitCount_0f7a4 23 = .ok (.istore_n 0, 1) := by decide +kernel
theorem dJ6_bitCount_0f7a4_24 : decode cJ6_bitCount_0f7a4 24 = .ok (.iload_n 0, 1) := by decide +kernel
theorem dJ6_bitCount_0f7a4_25 : decode cJ6_bitCount_0f7a4 25 = .ok (.iload_n 0, 1) := by decide +kernel
theorem dJ6_bitCount_0f7a4_26 : decode cJ6_bitCount_0f7a4 26 = .ok (.iconst 4, 1) := by decide +kernel
theorem dJ6_bitCount_0f7a4_27 : decode cJ6_bitCount_0f7a4 27 = .ok (.iushr, 1) := by decide +kernel
theorem dJ6_bitCount_0f7a4_28 : decode cJ6_bitCount_0f7a4 28 = .ok (.iadd, 1) := by decide +kernel
theorem dJ6_bitCount_0f7a4_29 : decode cJ6_bitCount_0f7a4 29 = .ok (.ldc_w 267, 3) := by decide +kernel
theorem dJ6_bitCount_0f7a4_32 : decode cJ6_bitCount_0f7a4 32 = .ok (.iand, 1) := by decide +kernel
theorem dJ6_bitCount_0f7a4_33 : decode cJ6_bitCount_0f7a4 33 = .ok (.istore_n 0, 1) := by decide +kernel
theorem dJ6_bitCount_0f7a4_34 : decode cJ6_bitCount_0f7a4 34 = .ok (.iload_n 0, 1) := by decide +kernel
theorem dJ6_bitCount_0f7a4_35 : decode cJ6_bitCount_0f7a4 35 = .ok (.iload_n 0, 1) := by decide +kernel
theorem dJ6_bitCount_0f7a4_36 : decode cJ6_bitCount_0f7a4 36 = .ok (.bipush 8, 2) := by decide +kernel
theorem dJ6_bitCount_0f7a4_38 : decode cJ6_bitCount_0f7a4 38 = .ok (.iushr, 1) := by decide +kernel
theorem dJ6_bitCount_0f7a4_39 : decode cJ6_bitCount_0f7a4 39 = .ok (.iadd, 1) := by decide +kernel
theorem dJ6_bitCount_0f7a4_40 : decode cJ6_bitCount_0f7a4 40 = .ok (.istore_n 0, 1) := by decide +kernel
theorem dJ6_bitCount_0f7a4_41 : decode cJ6_bitCount_0f7a4 41 = .ok (.iload_n 0, 1) := by decide +kernel
theorem dJ6_bitCount_0f7a4_42 : decode cJ6_bitCount_0f7a4 42 = .ok (.iload_n 0, 1) := by decide +kernel
theorem dJ6_bitCount_0f7a4_43 : decode cJ6_bitCount_0f7a4 43 = .ok (.bipush 16, 2) := by decide +kernel
theorem dJ6_bitCount_0f7a4_45 : decode cJ6_bitCount_0f7a4 45 = .ok (.iushr, 1) := by decide +kernel
theorem dJ6_bitCount_0f7a4_46 : decode cJ6_bitCount_0f7a4 46 = .ok (.iadd, 1) := by decide +kernel
theorem dJ6_bitCount_0f7a4_47 : decode cJ6_bitCount_0f7a4 47 = .ok (.istore_n 0, 1) := by decide +kernel
theorem dJ6_bitCount_0f7a4_48 : decode cJ6_bitCount_0f7a4 48 = .ok (.iload_n 0, 1) := by decide +kernel
theorem dJ6_bitCount_0f7a4_49 : decode cJ6_bitCount_0f7a4 49 = .ok (.bipush 63, 2) := by decide +kernel
theorem dJ6_bitCount_0f7a4_51 : decode cJ6_bitCount_0f7a4 51 = .ok (.iand, 1) := by decide +kernel
theorem dJ6_bitCount_0f7a4_52 : decode cJ6_bitCount_0f7a4 52 = .ok (.ireturn, 1) := by decide +kernel
noncomputable def fJ6_bitCount_0f7a4  (v0 : Int32) : Int32 := ((((((((v0 - ((iushr v0 1) &&& 1431655765)) &&& 858993459) + ((iushr (v0 - ((iushr v0 1) &&& 1431655765)) 2) &&& 858993459)) + (iushr (((v0 - ((iushr v0 1) &&& 1431655765)) &&& 858993459) + ((iushr (v0 - ((iushr v0 1) &&& 1431655765)) 2) &&& 858993459)) 4)) &&& 252645135) + (iushr (((((v0 - ((iushr v0 1) &&& 1431655765)) &&& 858993459) + ((iushr (v0 - ((iushr v0 1) &&& 1431655765)) 2) &&& 858993459)) + (iushr (((v0 - ((iushr v0 1) &&& 1431655765)) &&& 858993459) + ((iushr (v0 - ((iushr v0 1) &&& 1431655765)) 2) &&& 858993459)) 4)) &&& 252645135) 8)) + (iushr ((((((v0 - ((iushr v0 1) &&& 1431655765)) &&& 858993459) + ((iushr (v0 - ((iushr v0 1) &&& 1431655765)) 2) &&& 858993459)) + (iushr (((v0 - ((iushr v0 1) &&& 1431655765)) &&& 858993459) + ((iushr (v0 - ((iushr v0 1) &&& 1431655765)) 2) &&& 858993459)) 4)) &&& 252645135) + (iushr (((((v0 - ((iushr v0 1) &&& 1431655765)) &&& 858993459) + ((iushr (v0 - ((iushr v0 1) &&& 1431655765)) 2) &&& 858993459)) + (iushr (((v0 - ((iushr v0 1) &&& 1431655765)) &&& 858993459) + ((iushr (v0 - ((iushr v0 1) &&& 1431655765)) 2) &&& 858993459)) 4)) &&& 252645135) 8)) 16)) &&& 63)
set_option maxHeartbeats 4000000 in
set_option maxRecDepth 100000 in
theorem ctJ6_bitCount_0f7a4 (l : Launch) (g : GT) (v0 : Int32) (o : Int32) (h : fJ6_bitCount_0f7a4 v0 = o) : Met l yJ6_bitCount_0f7a4 (Cond.code yJ6_bitCount_0f7a4 cJ6_bitCount_0f7a4 1 (some .int) :: Tw) ⟨0, 0, 0, 0⟩ (va_Pc [.int v0] (roB g [])) (vp_Si (fun x => x = o)) 0 0 (fun _ => False) := by
  refine ro_meti (by decide) (Nat.le_of_ble_eq_true rfl) (lv0 := [(0, .int v0)]) rfl ?_
  intro p e s m args below meth c ls Q cx hret hG hP hl
  have hx := cx.1
  have hb := cx.2.1
  have hG0 := hG
  unfold fJ6_bitCount_0f7a4 at h
  refine lv_iload_n hx hb dJ6_bitCount_0f7a4_0 rfl (lv_at hl 0 rfl) ?_
  refine lv_iload_n hx hb dJ6_bitCount_0f7a4_1 rfl (lv_at hl 0 rfl) ?_
  refine lv_iconst (v := 1) hx hb dJ6_bitCount_0f7a4_2 (by decide) ?_
  refine lv_iushr (v := iushr v0 1) hx hb dJ6_bitCount_0f7a4_3 rfl ?_
  refine lv_ldcw (own := RJ6) (v := 1431655765) hx hb cx.2.2.2.1 (cx.2.2.2.2 _ ci_J6_265) dJ6_bitCount_0f7a4_4 ?_
  refine lv_iand hx hb dJ6_bitCount_0f7a4_7 ?_
  refine lv_isub hx hb dJ6_bitCount_0f7a4_8 ?_
  refine lv_istore_n (lv' := [(0, .int (v0 - ((iushr v0 1) &&& 1431655765)))]) hx hb dJ6_bitCount_0f7a4_9 rfl hl (by decide) rfl (fun ls hl => ?_)
  refine lv_iload_n hx hb dJ6_bitCount_0f7a4_10 rfl (lv_at hl 0 rfl) ?_
  refine lv_ldcw (own := RJ6) (v := 858993459) hx hb cx.2.2.2.1 (cx.2.2.2.2 _ ci_J6_266) dJ6_bitCount_0f7a4_11 ?_
  refine lv_iand hx hb dJ6_bitCount_0f7a4_14 ?_
  refine lv_iload_n hx hb dJ6_bitCount_0f7a4_15 rfl (lv_at hl 0 rfl) ?_
  refine lv_iconst (v := 2) hx hb dJ6_bitCount_0f7a4_16 (by decide) ?_
  refine lv_iushr (v := iushr (v0 - ((iushr v0 1) &&& 1431655765)) 2) hx hb dJ6_bitCount_0f7a4_17 rfl ?_
  refine lv_ldcw (own := RJ6) (v := 858993459) hx hb cx.2.2.2.1 (cx.2.2.2.2 _ ci_J6_266) dJ6_bitCount_0f7a4_18 ?_
  refine lv_iand hx hb dJ6_bitCount_0f7a4_21 ?_
  refine lv_iadd hx hb dJ6_bitCount_0f7a4_22 ?_
  refine lv_istore_n (lv' := [(0, .int (((v0 - ((iushr v0 1) &&& 1431655765)) &&& 858993459) + ((iushr (v0 - ((iushr v0 1) &&& 1431655765)) 2) &&& 858993459)))]) hx hb dJ6_bitCount_0f7a4_23 rfl hl (by decide) rfl (fun ls hl => ?_)
  refine lv_iload_n hx hb dJ6_bitCount_0f7a4_24 rfl (lv_at hl 0 rfl) ?_
  refine lv_iload_n hx hb dJ6_bitCount_0f7a4_25 rfl (lv_at hl 0 rfl) ?_
  refine lv_iconst (v := 4) hx hb dJ6_bitCount_0f7a4_26 (by decide) ?_
  refine lv_iushr (v := iushr (((v0 - ((iushr v0 1) &&& 1431655765)) &&& 858993459) + ((iushr (v0 - ((iushr v0 1) &&& 1431655765)) 2) &&& 858993459)) 4) hx hb dJ6_bitCount_0f7a4_27 rfl ?_
  refine lv_iadd hx hb dJ6_bitCount_0f7a4_28 ?_
  refine lv_ldcw (own := RJ6) (v := 252645135) hx hb cx.2.2.2.1 (cx.2.2.2.2 _ ci_J6_267) dJ6_bitCount_0f7a4_29 ?_
  refine lv_iand hx hb dJ6_bitCount_0f7a4_32 ?_
  refine lv_istore_n (lv' := [(0, .int (((((v0 - ((iushr v0 1) &&& 1431655765)) &&& 858993459) + ((iushr (v0 - ((iushr v0 1) &&& 1431655765)) 2) &&& 858993459)) + (iushr (((v0 - ((iushr v0 1) &&& 1431655765)) &&& 858993459) + ((iushr (v0 - ((iushr v0 1) &&& 1431655765)) 2) &&& 858993459)) 4)) &&& 252645135))]) hx hb dJ6_bitCount_0f7a4_33 rfl hl (by decide) rfl (fun ls hl => ?_)
  refine lv_iload_n hx hb dJ6_bitCount_0f7a4_34 rfl (lv_at hl 0 rfl) ?_
  refine lv_iload_n hx hb dJ6_bitCount_0f7a4_35 rfl (lv_at hl 0 rfl) ?_
  refine lv_bipush (v := 8) hx hb dJ6_bitCount_0f7a4_36 (by decide) ?_
  refine lv_iushr (v := iushr (((((v0 - ((iushr v0 1) &&& 1431655765)) &&& 858993459) + ((iushr (v0 - ((iushr v0 1) &&& 1431655765)) 2) &&& 858993459)) + (iushr (((v0 - ((iushr v0 1) &&& 1431655765)) &&& 858993459) + ((iushr (v0 - ((iushr v0 1) &&& 1431655765)) 2) &&& 858993459)) 4)) &&& 252645135) 8) hx hb dJ6_bitCount_0f7a4_38 rfl ?_
  refine lv_iadd hx hb dJ6_bitCount_0f7a4_39 ?_
  refine lv_istore_n (lv' := [(0, .int ((((((v0 - ((iushr v0 1) &&& 1431655765)) &&& 858993459) + ((iushr (v0 - ((iushr v0 1) &&& 1431655765)) 2) &&& 858993459)) + (iushr (((v0 - ((iushr v0 1) &&& 1431655765)) &&& 858993459) + ((iushr (v0 - ((iushr v0 1) &&& 1431655765)) 2) &&& 858993459)) 4)) &&& 252645135) + (iushr (((((v0 - ((iushr v0 1) &&& 1431655765)) &&& 858993459) + ((iushr (v0 - ((iushr v0 1) &&& 1431655765)) 2) &&& 858993459)) + (iushr (((v0 - ((iushr v0 1) &&& 1431655765)) &&& 858993459) + ((iushr (v0 - ((iushr v0 1) &&& 1431655765)) 2) &&& 858993459)) 4)) &&& 252645135) 8)))]) hx hb dJ6_bitCount_0f7a4_40 rfl hl (by decide) rfl (fun ls hl => ?_)
  refine lv_iload_n hx hb dJ6_bitCount_0f7a4_41 rfl (lv_at hl 0 rfl) ?_
  refine lv_iload_n hx hb dJ6_bitCount_0f7a4_42 rfl (lv_at hl 0 rfl) ?_
  refine lv_bipush (v := 16) hx hb dJ6_bitCount_0f7a4_43 (by decide) ?_
  refine lv_iushr (v := iushr ((((((v0 - ((iushr v0 1) &&& 1431655765)) &&& 858993459) + ((iushr (v0 - ((iushr v0 1) &&& 1431655765)) 2) &&& 858993459)) + (iushr (((v0 - ((iushr v0 1) &&& 1431655765)) &&& 858993459) + ((iushr (v0 - ((iushr v0 1) &&& 1431655765)) 2) &&& 858993459)) 4)) &&& 252645135) + (iushr (((((v0 - ((iushr v0 1) &&& 1431655765)) &&& 858993459) + ((iushr (v0 - ((iushr v0 1) &&& 1431655765)) 2) &&& 858993459)) + (iushr (((v0 - ((iushr v0 1) &&& 1431655765)) &&& 858993459) + ((iushr (v0 - ((iushr v0 1) &&& 1431655765)) 2) &&& 858993459)) 4)) &&& 252645135) 8)) 16) hx hb dJ6_bitCount_0f7a4_45 rfl ?_
  refine lv_iadd hx hb dJ6_bitCount_0f7a4_46 ?_
  refine lv_istore_n (lv' := [(0, .int (((((((v0 - ((iushr v0 1) &&& 1431655765)) &&& 858993459) + ((iushr (v0 - ((iushr v0 1) &&& 1431655765)) 2) &&& 858993459)) + (iushr (((v0 - ((iushr v0 1) &&& 1431655765)) &&& 858993459) + ((iushr (v0 - ((iushr v0 1) &&& 1431655765)) 2) &&& 858993459)) 4)) &&& 252645135) + (iushr (((((v0 - ((iushr v0 1) &&& 1431655765)) &&& 858993459) + ((iushr (v0 - ((iushr v0 1) &&& 1431655765)) 2) &&& 858993459)) + (iushr (((v0 - ((iushr v0 1) &&& 1431655765)) &&& 858993459) + ((iushr (v0 - ((iushr v0 1) &&& 1431655765)) 2) &&& 858993459)) 4)) &&& 252645135) 8)) + (iushr ((((((v0 - ((iushr v0 1) &&& 1431655765)) &&& 858993459) + ((iushr (v0 - ((iushr v0 1) &&& 1431655765)) 2) &&& 858993459)) + (iushr (((v0 - ((iushr v0 1) &&& 1431655765)) &&& 858993459) + ((iushr (v0 - ((iushr v0 1) &&& 1431655765)) 2) &&& 858993459)) 4)) &&& 252645135) + (iushr (((((v0 - ((iushr v0 1) &&& 1431655765)) &&& 858993459) + ((iushr (v0 - ((iushr v0 1) &&& 1431655765)) 2) &&& 858993459)) + (iushr (((v0 - ((iushr v0 1) &&& 1431655765)) &&& 858993459) + ((iushr (v0 - ((iushr v0 1) &&& 1431655765)) 2) &&& 858993459)) 4)) &&& 252645135) 8)) 16)))]) hx hb dJ6_bitCount_0f7a4_47 rfl hl (by decide) rfl (fun ls hl => ?_)
  refine lv_iload_n hx hb dJ6_bitCount_0f7a4_48 rfl (lv_at hl 0 rfl) ?_
  refine lv_bipush (v := 63) hx hb dJ6_bitCount_0f7a4_49 (by decide) ?_
  refine lv_iand hx hb dJ6_bitCount_0f7a4_51 ?_
  exact hret _ _ _ dJ6_bitCount_0f7a4_52 h
-- X3_angleAt
theorem dX3_angleAt_0 : decode cX3_angleAt 0 = .ok (.iload_n 0, 1) := by decide +kernel
theorem dX3_angleAt_1 : decode cX3_angleAt 1 = .ok (.iconst 4, 1) := by decide +kernel
theorem dX3_angleAt_2 : decode cX3_angleAt 2 = .ok (.iload_n 1, 1) := by decide +kernel
theorem dX3_angleAt_3 : decode cX3_angleAt 3 = .ok (.imul, 1) := by decide +kernel
theorem dX3_angleAt_4 : decode cX3_angleAt 4 = .ok (.iushr, 1) := by decide +kernel
theorem dX3_angleAt_5 : decode cX3_angleAt 5 = .ok (.iconst 3, 1) := by decide +kernel
theorem dX3_angleAt_6 : decode cX3_angleAt 6 = .ok (.iand, 1) := by decide +kernel
theorem dX3_angleAt_7 : decode cX3_angleAt 7 = .ok (.ireturn, 1) := by decide +kernel
noncomputable def fX3_angleAt  (v0 : Int32) (v1 : Int32) : Int32 := ((iushr v0 (4 * v1)) &&& 3)
set_option maxHeartbeats 4000000 in
set_option maxRecDepth 100000 in
theorem ctX3_angleAt (l : Launch) (g : GT) (v0 : Int32) (v1 : Int32) (o : Int32) (h : fX3_angleAt v0 v1 = o) : Met l yX3_angleAt (Cond.code yX3_angleAt cX3_angleAt 2 (some .int) :: Tw) ⟨0, 0, 0, 0⟩ (va_Pc [.int v0, .int v1] (roB g [])) (vp_Si (fun x => x = o)) 0 0 (fun _ => False) := by
  refine ro_meti (by decide) (Nat.le_of_ble_eq_true rfl) (lv0 := [(0, .int v0), (1, .int v1)]) rfl ?_
  intro p e s m args below meth c ls Q cx hret hG hP hl
  have hx := cx.1
  have hb := cx.2.1
  have hG0 := hG
  unfold fX3_angleAt at h
  refine lv_iload_n hx hb dX3_angleAt_0 rfl (lv_at hl 0 rfl) ?_
  refine lv_iconst (v := 4) hx hb dX3_angleAt_1 (by decide) ?_
  refine lv_iload_n hx hb dX3_angleAt_2 rfl (lv_at hl 1 rfl) ?_
  refine lv_imul hx hb dX3_angleAt_3 ?_
  refine lv_iushr (v := iushr v0 (4 * v1)) hx hb dX3_angleAt_4 rfl ?_
  refine lv_iconst (v := 3) hx hb dX3_angleAt_5 (by decide) ?_
  refine lv_iand hx hb dX3_angleAt_6 ?_
  exact hret _ _ _ dX3_angleAt_7 h
-- X3_longestRun
theorem dX3_longestRun_0 : decode cX3_longestRun 0 = .ok (.iconst 0, 1) := by decide +kernel
theorem dX3_longestRun_1 : decode cX3_longestRun 1 = .ok (.istore_n 2, 1) := by decide +kernel
theorem dX3_longestRun_2 : decode cX3_longestRun 2 = .ok (.iconst 0, 1) := by decide +kernel
theorem dX3_longestRun_3 : decode cX3_longestRun 3 = .ok (.istore_n 3, 1) := by decide +kernel
theorem dX3_longestRun_4 : decode cX3_longestRun 4 = .ok (.iconst 0, 1) := by decide +kernel
theorem dX3_longestRun_5 : decode cX3_longestRun 5 = .ok (.istore 4, 2) := by decide +kernel
theorem dX3_longestRun_7 : decode cX3_longestRun 7 = .ok (.iload 4, 2) := by decide +kernel
theorem dX3_longestRun_9 : decode cX3_longestRun 9 = .ok (.iload_n 1, 1) := by decide +kernel
theorem dX3_longestRun_10 : decode cX3_longestRun 10 = .ok (.if_icmp .ge 45, 3) := by decide +kernel
theorem dX3_longestRun_13 : decode cX3_longestRun 13 = .ok (.iload 4, 2) := by decide +kernel
theorem dX3_longestRun_15 : decode cX3_longestRun 15 = .ok (.ifCond .le 26, 3) := by decide +kernel
theorem dX3_longestRun_18 : decode cX3_longestRun 18 = .ok (.iload_n 0, 1) := by decide +kernel
theorem dX3_longestRun_19 : decode cX3_longestRun 19 = .ok (.iload 4, 2) := by decide +kernel
theorem dX3_longestRun_21 : decode cX3_longestRun 21 = .ok (.invokestatic 15, 3) := by decide +kernel
theorem dX3_longestRun_24 : decode cX3_longestRun 24 = .ok (.iload_n 0, 1) := by decide +kernel
theorem dX3_longestRun_25 : decode cX3_longestRun 25 = .ok (.iload 4, 2) := by decide +kernel
theorem dX3_longestRun_27 : decode cX3_longestRun 27 = .ok (.iconst 1, 1) := by decide +kernel
theorem dX3_longestRun_28 : decode cX3_longestRun 28 = .ok (.isub, 1) := by decide +kernel
theorem dX3_longestRun_29 : decode cX3_longestRun 29 = .ok (.invokestatic 15, 3) := by decide +kernel
theorem dX3_longestRun_32 : decode cX3_longestRun 32 = .ok (.if_icmp .ne 9, 3) := by decide +kernel
theorem dX3_longestRun_35 : decode cX3_longestRun 35 = .ok (.iload_n 3, 1) := by decide +kernel
theorem dX3_longestRun_36 : decode cX3_longestRun 36 = .ok (.iconst 1, 1) := by decide +kernel
theorem dX3_longestRun_37 : decode cX3_longestRun 37 = .ok (.iadd, 1) := by decide +kernel
theorem dX3_longestRun_38 : decode cX3_longestRun 38 = .ok (.goto 4, 3) := by decide +kernel
theorem dX3_longestRun_41 : decode cX3_longestRun 41 = .ok (.iconst 1, 1) := by decide +kernel
theorem dX3_longestRun_42 : decode cX3_longestRun 42 = .ok (.istore_n 3, 1) := by decide +kernel
theorem dX3_longestRun_43 : decode cX3_longestRun 43 = .ok (.iload_n 2, 1) := by decide +kernel
theorem dX3_longestRun_44 : decode cX3_longestRun 44 = .ok (.iload_n 3, 1) := by decide +kernel
theorem dX3_longestRun_45 : decode cX3_longestRun 45 = .ok (.invokestatic 18, 3) := by decide +kernel
theorem dX3_longestRun_48 : decode cX3_longestRun 48 = .ok (.istore_n 2, 1) := by decide +kernel
theorem dX3_longestRun_49 : decode cX3_longestRun 49 = .ok (.iinc 4 1, 3) := by decide +kernel
theorem dX3_longestRun_52 : decode cX3_longestRun 52 = .ok (.goto (-45), 3) := by decide +kernel
theorem dX3_longestRun_55 : decode cX3_longestRun 55 = .ok (.iload_n 2, 1) := by decide +kernel
theorem dX3_longestRun_56 : decode cX3_longestRun 56 = .ok (.ireturn, 1) := by decide +kernel
noncomputable def fX3_longestRun_42 (k7 : Int32 → Int32 → Int32 → Int32 → Int32 → Option (Int32)) (v0 : Int32) (v1 : Int32) (v2 : Int32) (v4 : Int32) (z0 : Int32) : Option (Int32) := k7 v0 v1 (imax v2 z0) z0 (v4 + 1)
noncomputable def fX3_longestRun_41 (k7 : Int32 → Int32 → Int32 → Int32 → Int32 → Option (Int32)) (v0 : Int32) (v1 : Int32) (v2 : Int32) (v4 : Int32) : Option (Int32) := fX3_longestRun_42 k7 v0 v1 v2 v4 1
noncomputable def fX3_longestRun_7  : Nat → Int32 → Int32 → Int32 → Int32 → Int32 → Option (Int32)
  | 0, _, _, _, _, _ => none
  | n + 1, v0, v1, v2, v3, v4 => (if v1 ≤ v4 then some v2 else (if v4 ≤ 0 then fX3_longestRun_41 (fX3_longestRun_7 n) v0 v1 v2 v4 else (if (fX3_angleAt v0 v4) = (fX3_angleAt v0 (v4 - 1)) then fX3_longestRun_42 (fX3_longestRun_7 n) v0 v1 v2 v4 (v3 + 1) else fX3_longestRun_41 (fX3_longestRun_7 n) v0 v1 v2 v4)))
theorem fX3_longestRun_7_z  (v0 : Int32) (v1 : Int32) (v2 : Int32) (v3 : Int32) (v4 : Int32) : fX3_longestRun_7  0 v0 v1 v2 v3 v4 = none := rfl
theorem fX3_longestRun_7_s  (n : Nat) (v0 : Int32) (v1 : Int32) (v2 : Int32) (v3 : Int32) (v4 : Int32) : fX3_longestRun_7  (n + 1) v0 v1 v2 v3 v4 = (if v1 ≤ v4 then some v2 else (if v4 ≤ 0 then fX3_longestRun_41 (fX3_longestRun_7 n) v0 v1 v2 v4 else (if (fX3_angleAt v0 v4) = (fX3_angleAt v0 (v4 - 1)) then fX3_longestRun_42 (fX3_longestRun_7 n) v0 v1 v2 v4 (v3 + 1) else fX3_longestRun_41 (fX3_longestRun_7 n) v0 v1 v2 v4))) := rfl
noncomputable def fX3_longestRun  (v0 : Int32) (v1 : Int32) : Option (Int32) := fX3_longestRun_7 FU v0 v1 0 0 0
set_option maxHeartbeats 4000000 in
set_option maxRecDepth 100000 in
theorem ctX3_longestRun (l : Launch) (g : GT) (v0 : Int32) (v1 : Int32) (o : Int32) (h : fX3_longestRun v0 v1 = some o) : Met l yX3_longestRun (Cond.code yX3_longestRun cX3_longestRun 5 (some .int) :: Tw) ⟨1, 0, 0, 26⟩ (va_Pc [.int v0, .int v1] (roB g [])) (vp_Si (fun x => x = o)) 0 0 (fun _ => False) := by
  refine ro_meti (by decide) (Nat.le_of_ble_eq_true rfl) (lv0 := [(0, .int v0), (1, .int v1)]) rfl ?_
  intro p e s m args below meth c ls Q cx hret hG hP hl
  have hx := cx.1
  have hb := cx.2.1
  have hG0 := hG
  have w42 : ∀ (k7 : Int32 → Int32 → Int32 → Int32 → Int32 → Option (Int32)) (hk7 : ∀ (v0 : Int32) (v1 : Int32) (v2 : Int32) (v3 : Int32) (v4 : Int32) (ls : Array Slot), lv_has ls 5 [(0, .int v0), (1, .int v1), (2, .int v2), (3, .int v3), (4, .int v4)] → k7 v0 v1 v2 v3 v4 = some o → W p l e ⟨1, 0, 0, 26⟩ s m args below meth c s.heap [] 0 0 Q (F0 m 7 ls [])) (v0 : Int32) (v1 : Int32) (v2 : Int32) (v4 : Int32) (z0 : Int32) (ls : Array Slot), lv_has ls 5 [(0, .int v0), (1, .int v1), (2, .int v2), (4, .int v4)] → fX3_longestRun_42 k7 v0 v1 v2 v4 z0 = some o → W p l e ⟨1, 0, 0, 26⟩ s m args below meth c s.heap [] 0 0 Q (F0 m 42 ls [.int z0]) := by
    intro k7 hk7 v0 v1 v2 v4 z0 ls hl h
    unfold fX3_longestRun_42 at h
    refine lv_istore_n (lv' := [(3, .int z0), (0, .int v0), (1, .int v1), (2, .int v2), (4, .int v4)]) hx hb dX3_longestRun_42 rfl hl (by decide) rfl (fun ls hl => ?_)
    refine lv_iload_n hx hb dX3_longestRun_43 rfl (lv_at hl 3 rfl) ?_
    refine lv_iload_n hx hb dX3_longestRun_44 rfl (lv_at hl 0 rfl) ?_
    refine xm_imax cx hl.1 lm_X3_18 ⟨ksJ9_max_7cf53, kmJ9_max_7cf53.2.1, kmJ9_max_7cf53.1⟩ (Nat.le_of_ble_eq_true rfl) (Nat.le_of_ble_eq_true rfl) (Nat.le_of_ble_eq_true rfl) (Nat.le_of_ble_eq_true rfl) dX3_longestRun_45 ?_
    refine lv_istore_n (lv' := [(2, .int (imax v2 z0)), (3, .int z0), (0, .int v0), (1, .int v1), (4, .int v4)]) hx hb dX3_longestRun_48 rfl hl (by decide) rfl (fun ls hl => ?_)
    refine lv_iinc (v := v4 + 1) (lv' := [(4, .int (v4 + 1)), (2, .int (imax v2 z0)), (3, .int z0), (0, .int v0), (1, .int v1)]) hx hb dX3_longestRun_49 hl (k := 4) rfl rfl (by decide) rfl (fun ls hl => ?_)
    refine lv_goto (tgt := 7) hx hb dX3_longestRun_52 (by decide) ?_
    exact hk7 v0 v1 (imax v2 z0) z0 (v4 + 1) _ (lv_sub hl [3, 4, 1, 2, 0] rfl) h
  have w41 : ∀ (k7 : Int32 → Int32 → Int32 → Int32 → Int32 → Option (Int32)) (hk7 : ∀ (v0 : Int32) (v1 : Int32) (v2 : Int32) (v3 : Int32) (v4 : Int32) (ls : Array Slot), lv_has ls 5 [(0, .int v0), (1, .int v1), (2, .int v2), (3, .int v3), (4, .int v4)] → k7 v0 v1 v2 v3 v4 = some o → W p l e ⟨1, 0, 0, 26⟩ s m args below meth c s.heap [] 0 0 Q (F0 m 7 ls [])) (v0 : Int32) (v1 : Int32) (v2 : Int32) (v4 : Int32) (ls : Array Slot), lv_has ls 5 [(0, .int v0), (1, .int v1), (2, .int v2), (4, .int v4)] → fX3_longestRun_41 k7 v0 v1 v2 v4 = some o → W p l e ⟨1, 0, 0, 26⟩ s m args below meth c s.heap [] 0 0 Q (F0 m 41 ls []) := by
    intro k7 hk7 v0 v1 v2 v4 ls hl h
    unfold fX3_longestRun_41 at h
    refine lv_iconst (v := 1) hx hb dX3_longestRun_41 (by decide) ?_
    exact w42 _ hk7 v0 v1 v2 v4 1 _ (lv_sub hl [0, 1, 2, 3] rfl) h
  have w7 : ∀ (n : Nat) (v0 : Int32) (v1 : Int32) (v2 : Int32) (v3 : Int32) (v4 : Int32) (ls : Array Slot), lv_has ls 5 [(0, .int v0), (1, .int v1), (2, .int v2), (3, .int v3), (4, .int v4)] → fX3_longestRun_7  n v0 v1 v2 v3 v4 = some o → W p l e ⟨1, 0, 0, 26⟩ s m args below meth c s.heap [] 0 0 Q (F0 m 7 ls []) := by
    intro n
    induction n with
    | zero => intro v0 v1 v2 v3 v4 ls hl h; cases (fX3_longestRun_7_z  v0 v1 v2 v3 v4).symm.trans h
    | succ n ih =>
    intro v0 v1 v2 v3 v4 ls hl h
    have h := (fX3_longestRun_7_s  n v0 v1 v2 v3 v4).symm.trans h
    refine lv_iload hx hb dX3_longestRun_7 (lv_at hl 4 rfl) ?_
    refine lv_iload_n hx hb dX3_longestRun_9 rfl (lv_at hl 1 rfl) ?_
    refine lv_icmp_ge (tgt := 55) hx hb dX3_longestRun_10 (by decide) (fun c1 => ?_) (fun c1 => ?_)
    · have h := itp c1 h
      refine lv_iload_n hx hb dX3_longestRun_55 rfl (lv_at hl 2 rfl) ?_
      exact hret _ _ _ dX3_longestRun_56 (Option.some.inj h)
    · have h := itn c1 h
      refine lv_iload hx hb dX3_longestRun_13 (lv_at hl 4 rfl) ?_
      refine lv_if_le (tgt := 41) hx hb dX3_longestRun_15 (by decide) (fun c2 => ?_) (fun c2 => ?_)
      · have h := itp c2 h
        exact w41 _ ih v0 v1 v2 v4 _ (lv_sub hl [0, 1, 2, 4] rfl) h
      · have h := itn c2 h
        refine lv_iload_n hx hb dX3_longestRun_18 rfl (lv_at hl 0 rfl) ?_
        refine lv_iload hx hb dX3_longestRun_19 (lv_at hl 4 rfl) ?_
        refine ro_i (runS (As := [.int v0, .int v4]) (rest := []) cx hl.1 (ctX3_angleAt l g v0 v4 (fX3_angleAt v0 v4) rfl) kmX3_angleAt ksX3_angleAt lm_X3_15 ⟨rfl, rfl⟩ ⟨Nat.le_of_ble_eq_true rfl, Nat.le_of_ble_eq_true rfl⟩ (roS hG (hP.sub [] rfl)) rfl rfl (Nat.le_of_ble_eq_true rfl) dX3_longestRun_21 ⟨Nat.le_of_ble_eq_true rfl, Nat.le_of_ble_eq_true rfl⟩) ?_
        refine lv_iload_n hx hb dX3_longestRun_24 rfl (lv_at hl 0 rfl) ?_
        refine lv_iload hx hb dX3_longestRun_25 (lv_at hl 4 rfl) ?_
        refine lv_iconst (v := 1) hx hb dX3_longestRun_27 (by decide) ?_
        refine lv_isub hx hb dX3_longestRun_28 ?_
        refine ro_i (runS (As := [.int v0, .int (v4 - 1)]) (rest := [.int (fX3_angleAt v0 v4)]) cx hl.1 (ctX3_angleAt l g v0 (v4 - 1) (fX3_angleAt v0 (v4 - 1)) rfl) kmX3_angleAt ksX3_angleAt lm_X3_15 ⟨rfl, rfl⟩ ⟨Nat.le_of_ble_eq_true rfl, Nat.le_of_ble_eq_true rfl⟩ (roS hG (hP.sub [] rfl)) rfl rfl (Nat.le_of_ble_eq_true rfl) dX3_longestRun_29 ⟨Nat.le_of_ble_eq_true rfl, Nat.le_of_ble_eq_true rfl⟩) ?_
        refine lv_icmp_ne (tgt := 41) hx hb dX3_longestRun_32 (by decide) (fun c3 => ?_) (fun c3 => ?_)
        · have h := itn c3 h
          exact w41 _ ih v0 v1 v2 v4 _ (lv_sub hl [0, 1, 2, 4] rfl) h
        · have h := itp c3 h
          refine lv_iload_n hx hb dX3_longestRun_35 rfl (lv_at hl 3 rfl) ?_
          refine lv_iconst (v := 1) hx hb dX3_longestRun_36 (by decide) ?_
          refine lv_iadd hx hb dX3_longestRun_37 ?_
          refine lv_goto (tgt := 42) hx hb dX3_longestRun_38 (by decide) ?_
          exact w42 _ ih v0 v1 v2 v4 (v3 + 1) _ (lv_sub hl [0, 1, 2, 4] rfl) h
  unfold fX3_longestRun at h
  refine lv_iconst (v := 0) hx hb dX3_longestRun_0 (by decide) ?_
  refine lv_istore_n (lv' := [(2, .int (0)), (0, .int v0), (1, .int v1)]) hx hb dX3_longestRun_1 rfl hl (by decide) rfl (fun ls hl => ?_)
  refine lv_iconst (v := 0) hx hb dX3_longestRun_2 (by decide) ?_
  refine lv_istore_n (lv' := [(3, .int (0)), (2, .int (0)), (0, .int v0), (1, .int v1)]) hx hb dX3_longestRun_3 rfl hl (by decide) rfl (fun ls hl => ?_)
  refine lv_iconst (v := 0) hx hb dX3_longestRun_4 (by decide) ?_
  refine lv_istore (lv' := [(4, .int (0)), (3, .int (0)), (2, .int (0)), (0, .int v0), (1, .int v1)]) hx hb dX3_longestRun_5 hl (by decide) rfl (fun ls hl => ?_)
  exact w7 FU v0 v1 0 0 0 _ (lv_sub hl [3, 4, 2, 1, 0] rfl) h
-- X1_roomNow
theorem dX1_roomNow_0 : decode cX1_roomNow 0 = .ok (.aload_n 0, 1) := by decide +kernel
theorem dX1_roomNow_1 : decode cX1_roomNow 1 = .ok (.getfield 24, 3) := by decide +kernel
theorem dX1_roomNow_4 : decode cX1_roomNow 4 = .ok (.aload_n 0, 1) := by decide +kernel
theorem dX1_roomNow_5 : decode cX1_roomNow 5 = .ok (.getfield 38, 3) := by decide +kernel
theorem dX1_roomNow_8 : decode cX1_roomNow 8 = .ok (.iaload, 1) := by decide +kernel
theorem dX1_roomNow_9 : decode cX1_roomNow 9 = .ok (.ireturn, 1) := by decide +kernel
noncomputable def fX1_roomNow  (t_rooms : Nat → Int32) (t_acts : Int32) : Option (Int32) := chk 31 t_acts (some (t_rooms t_acts.toNatClampNeg))
set_option maxHeartbeats 4000000 in
set_option maxRecDepth 100000 in
theorem ctX1_roomNow (l : Launch) (g : GT) (a_t : Nat → Nat) (t_told : Int32) (t_lines : Int32) (t_kinds : Int32) (t_acts : Int32) (t_rooms : Nat → Int32) (o : Int32) (h : fX1_roomNow t_rooms t_acts = some o) : Met l yX1_roomNow (Cond.code yX1_roomNow cX1_roomNow 1 (some .int) :: Tw) ⟨0, 0, 0, 0⟩ (va_Pc [.ref ((a_t 0))] (roB g [((a_t 0), .inr (1, [.ref (a_t 1), .ref (a_t 2), .ref (a_t 3), .ref (a_t 4), .ref (a_t 5), .int t_told, .int t_lines, .int t_kinds, .int t_acts])), ((a_t 5), .inl (g.2.2.1 0, 31, .inl t_rooms))])) (vp_Si (fun x => x = o)) 0 0 (fun _ => False) := by
  refine ro_meti (by decide) (Nat.le_of_ble_eq_true rfl) (lv0 := [(0, .ref ((a_t 0)))]) rfl ?_
  intro p e s m args below meth c ls Q cx hret hG hP hl
  have hx := cx.1
  have hb := cx.2.1
  have hG0 := hG
  unfold fX1_roomNow at h
  refine lv_aload_n hx hb dX1_roomNow_0 rfl (lv_at hl 0 rfl) ?_
  refine xa_get (C := RX1) (T := TX1) (N := 9) cx hG hP 0 rfl rfl uX1 4 (by decide) lf_X1_24 rfl dX1_roomNow_1 ?_
  refine lv_aload_n hx hb dX1_roomNow_4 rfl (lv_at hl 0 rfl) ?_
  refine xa_get (C := RX1) (T := TX1) (N := 9) cx hG hP 0 rfl rfl uX1 8 (by decide) lf_X1_38 rfl dX1_roomNow_5 ?_
  obtain ⟨hi1, h⟩ := chk_out h
  refine xa_iald cx hG hP 1 rfl hi1 rfl dX1_roomNow_8 ?_
  exact hret _ _ _ dX1_roomNow_9 (Option.some.inj h)
-- X3_isMirrored
theorem dX3_isMirrored_0 : decode cX3_isMirrored 0 = .ok (.iconst 0, 1) := by decide +kernel
theorem dX3_isMirrored_1 : decode cX3_isMirrored 1 = .ok (.istore_n 2, 1) := by decide +kernel
theorem dX3_isMirrored_2 : decode cX3_isMirrored 2 = .ok (.iload_n 2, 1) := by decide +kernel
theorem dX3_isMirrored_3 : decode cX3_isMirrored 3 = .ok (.iload_n 1, 1) := by decide +kernel
theorem dX3_isMirrored_4 : decode cX3_isMirrored 4 = .ok (.iconst 2, 1) := by decide +kernel
theorem dX3_isMirrored_5 : decode cX3_isMirrored 5 = .ok (.idiv, 1) := by decide +kernel
theorem dX3_isMirrored_6 : decode cX3_isMirrored 6 = .ok (.if_icmp .ge 28, 3) := by decide +kernel
theorem dX3_isMirrored_9 : decode cX3_isMirrored 9 = .ok (.iload_n 0, 1) := by decide +kernel
theorem dX3_isMirrored_10 : decode cX3_isMirrored 10 = .ok (.iload_n 2, 1) := by decide +kernel
theorem dX3_isMirrored_11 : decode cX3_isMirrored 11 = .ok (.invokestatic 9, 3) := by decide +kernel
theorem dX3_isMirrored_14 : decode cX3_isMirrored 14 = .ok (.iload_n 0, 1) := by decide +kernel
theorem dX3_isMirrored_15 : decode cX3_isMirrored 15 = .ok (.iload_n 1, 1) := by decide +kernel
theorem dX3_isMirrored_16 : decode cX3_isMirrored 16 = .ok (.iconst 1, 1) := by decide +kernel
theorem dX3_isMirrored_17 : decode cX3_isMirrored 17 = .ok (.isub, 1) := by decide +kernel
theorem dX3_isMirrored_18 : decode cX3_isMirrored 18 = .ok (.iload_n 2, 1) := by decide +kernel
theorem dX3_isMirrored_19 : decode cX3_isMirrored 19 = .ok (.isub, 1) := by decide +kernel
theorem dX3_isMirrored_20 : decode cX3_isMirrored 20 = .ok (.invokestatic 9, 3) := by decide +kernel
theorem dX3_isMirrored_23 : decode cX3_isMirrored 23 = .ok (.if_icmp .eq 5, 3) := by decide +kernel
theorem dX3_isMirrored_26 : decode cX3_isMirrored 26 = .ok (.iconst 0, 1) := by decide +kernel
theorem dX3_isMirrored_27 : decode cX3_isMirrored 27 = .ok (.ireturn, 1) := by decide +kernel
theorem dX3_isMirrored_28 : decode cX3_isMirrored 28 = .ok (.iinc 2 1, 3) := by decide +kernel
theorem dX3_isMirrored_31 : decode cX3_isMirrored 31 = .ok (.goto (-29), 3) := by decide +kernel
theorem dX3_isMirrored_34 : decode cX3_isMirrored 34 = .ok (.iconst 1, 1) := by decide +kernel
theorem dX3_isMirrored_35 : decode cX3_isMirrored 35 = .ok (.ireturn, 1) := by decide +kernel
noncomputable def fX3_isMirrored_2  : Nat → Int32 → Int32 → Int32 → Option (Int32)
  | 0, _, _, _ => none
  | n + 1, v0, v1, v2 => (if (v1 / 2) ≤ v2 then some (1) else (if (fX3_typeAt v0 v2) = (fX3_typeAt v0 ((v1 - 1) - v2)) then fX3_isMirrored_2 n v0 v1 (v2 + 1) else some (0)))
theorem fX3_isMirrored_2_z  (v0 : Int32) (v1 : Int32) (v2 : Int32) : fX3_isMirrored_2  0 v0 v1 v2 = none := rfl
theorem fX3_isMirrored_2_s  (n : Nat) (v0 : Int32) (v1 : Int32) (v2 : Int32) : fX3_isMirrored_2  (n + 1) v0 v1 v2 = (if (v1 / 2) ≤ v2 then some (1) else (if (fX3_typeAt v0 v2) = (fX3_typeAt v0 ((v1 - 1) - v2)) then fX3_isMirrored_2 n v0 v1 (v2 + 1) else some (0))) := rfl
noncomputable def fX3_isMirrored  (v0 : Int32) (v1 : Int32) : Option (Int32) := fX3_isMirrored_2 FU v0 v1 0
set_option maxHeartbeats 4000000 in
set_option maxRecDepth 100000 in
theorem ctX3_isMirrored (l : Launch) (g : GT) (v0 : Int32) (v1 : Int32) (o : Int32) (h : fX3_isMirrored v0 v1 = some o) : Met l yX3_isMirrored (Cond.code yX3_isMirrored cX3_isMirrored 3 (some .boolean) :: Tw) ⟨1, 0, 0, 21⟩ (va_Pc [.int v0, .int v1] (roB g [])) (vp_Si (fun x => x = o ∧ (x = 0 ∨ x = 1))) 0 0 (fun _ => False) := by
  refine ro_metz (by decide) (Nat.le_of_ble_eq_true rfl) (lv0 := [(0, .int v0), (1, .int v1)]) rfl ?_
  intro p e s m args below meth c ls Q cx hret hG hP hl
  have hx := cx.1
  have hb := cx.2.1
  have hG0 := hG
  have w2 : ∀ (n : Nat) (v0 : Int32) (v1 : Int32) (v2 : Int32) (ls : Array Slot), lv_has ls 3 [(0, .int v0), (1, .int v1), (2, .int v2)] → fX3_isMirrored_2  n v0 v1 v2 = some o → W p l e ⟨1, 0, 0, 21⟩ s m args below meth c s.heap [] 0 0 Q (F0 m 2 ls []) := by
    intro n
    induction n with
    | zero => intro v0 v1 v2 ls hl h; cases (fX3_isMirrored_2_z  v0 v1 v2).symm.trans h
    | succ n ih =>
    intro v0 v1 v2 ls hl h
    have h := (fX3_isMirrored_2_s  n v0 v1 v2).symm.trans h
    refine lv_iload_n hx hb dX3_isMirrored_2 rfl (lv_at hl 2 rfl) ?_
    refine lv_iload_n hx hb dX3_isMirrored_3 rfl (lv_at hl 1 rfl) ?_
    refine lv_iconst (v := 2) hx hb dX3_isMirrored_4 (by decide) ?_
    refine lv_idiv hx hb dX3_isMirrored_5 (by decide) ?_
    refine lv_icmp_ge (tgt := 34) hx hb dX3_isMirrored_6 (by decide) (fun c1 => ?_) (fun c1 => ?_)
    · have h := itp c1 h
      refine lv_iconst (v := 1) hx hb dX3_isMirrored_34 (by decide) ?_
      exact hret _ _ _ dX3_isMirrored_35 (by decide) (Option.some.inj h)
    · have h := itn c1 h
      refine lv_iload_n hx hb dX3_isMirrored_9 rfl (lv_at hl 0 rfl) ?_
      refine lv_iload_n hx hb dX3_isMirrored_10 rfl (lv_at hl 2 rfl) ?_
      refine ro_i (runS (As := [.int v0, .int v2]) (rest := []) cx hl.1 (ctX3_typeAt l g v0 v2 (fX3_typeAt v0 v2) rfl) kmX3_typeAt ksX3_typeAt lm_X3_9 ⟨rfl, rfl⟩ ⟨Nat.le_of_ble_eq_true rfl, Nat.le_of_ble_eq_true rfl⟩ (roS hG (hP.sub [] rfl)) rfl rfl (Nat.le_of_ble_eq_true rfl) dX3_isMirrored_11 ⟨Nat.le_of_ble_eq_true rfl, Nat.le_of_ble_eq_true rfl⟩) ?_
      refine lv_iload_n hx hb dX3_isMirrored_14 rfl (lv_at hl 0 rfl) ?_
      refine lv_iload_n hx hb dX3_isMirrored_15 rfl (lv_at hl 1 rfl) ?_
      refine lv_iconst (v := 1) hx hb dX3_isMirrored_16 (by decide) ?_
      refine lv_isub hx hb dX3_isMirrored_17 ?_
      refine lv_iload_n hx hb dX3_isMirrored_18 rfl (lv_at hl 2 rfl) ?_
      refine lv_isub hx hb dX3_isMirrored_19 ?_
      refine ro_i (runS (As := [.int v0, .int ((v1 - 1) - v2)]) (rest := [.int (fX3_typeAt v0 v2)]) cx hl.1 (ctX3_typeAt l g v0 ((v1 - 1) - v2) (fX3_typeAt v0 ((v1 - 1) - v2)) rfl) kmX3_typeAt ksX3_typeAt lm_X3_9 ⟨rfl, rfl⟩ ⟨Nat.le_of_ble_eq_true rfl, Nat.le_of_ble_eq_true rfl⟩ (roS hG (hP.sub [] rfl)) rfl rfl (Nat.le_of_ble_eq_true rfl) dX3_isMirrored_20 ⟨Nat.le_of_ble_eq_true rfl, Nat.le_of_ble_eq_true rfl⟩) ?_
      refine lv_icmp_eq (tgt := 28) hx hb dX3_isMirrored_23 (by decide) (fun c2 => ?_) (fun c2 => ?_)
      · have h := itp c2 h
        refine lv_iinc (v := v2 + 1) (lv' := [(2, .int (v2 + 1)), (0, .int v0), (1, .int v1)]) hx hb dX3_isMirrored_28 hl (k := 2) rfl rfl (by decide) rfl (fun ls hl => ?_)
        refine lv_goto (tgt := 2) hx hb dX3_isMirrored_31 (by decide) ?_
        exact ih v0 v1 (v2 + 1) _ (lv_sub hl [1, 2, 0] rfl) h
      · have h := itn c2 h
        refine lv_iconst (v := 0) hx hb dX3_isMirrored_26 (by decide) ?_
        exact hret _ _ _ dX3_isMirrored_27 (by decide) (Option.some.inj h)
  unfold fX3_isMirrored at h
  refine lv_iconst (v := 0) hx hb dX3_isMirrored_0 (by decide) ?_
  refine lv_istore_n (lv' := [(2, .int (0)), (0, .int v0), (1, .int v1)]) hx hb dX3_isMirrored_1 rfl hl (by decide) rfl (fun ls hl => ?_)
  exact w2 FU v0 v1 0 _ (lv_sub hl [1, 2, 0] rfl) h
-- X3_thickOf
theorem dX3_thickOf_0 : decode cX3_thickOf 0 = .ok (.iconst 3, 1) := by decide +kernel
theorem dX3_thickOf_1 : decode cX3_thickOf 1 = .ok (.iload_n 0, 1) := by decide +kernel
theorem dX3_thickOf_2 : decode cX3_thickOf 2 = .ok (.imul, 1) := by decide +kernel
theorem dX3_thickOf_3 : decode cX3_thickOf 3 = .ok (.iload_n 0, 1) := by decide +kernel
theorem dX3_thickOf_4 : decode cX3_thickOf 4 = .ok (.imul, 1) := by decide +kernel
theorem dX3_thickOf_5 : decode cX3_thickOf 5 = .ok (.iconst 1, 1) := by decide +kernel
theorem dX3_thickOf_6 : decode cX3_thickOf 6 = .ok (.iadd, 1) := by decide +kernel
theorem dX3_thickOf_7 : decode cX3_thickOf 7 = .ok (.ireturn, 1) := by decide +kernel
noncomputable def fX3_thickOf  (v0 : Int32) : Int32 := (((3 * v0) * v0) + 1)
set_option maxHeartbeats 4000000 in
set_option maxRecDepth 100000 in
theorem ctX3_thickOf (l : Launch) (g : GT) (v0 : Int32) (o : Int32) (h : fX3_thickOf v0 = o) : Met l yX3_thickOf (Cond.code yX3_thickOf cX3_thickOf 1 (some .int) :: Tw) ⟨0, 0, 0, 0⟩ (va_Pc [.int v0] (roB g [])) (vp_Si (fun x => x = o)) 0 0 (fun _ => False) := by
  refine ro_meti (by decide) (Nat.le_of_ble_eq_true rfl) (lv0 := [(0, .int v0)]) rfl ?_
  intro p e s m args below meth c ls Q cx hret hG hP hl
  have hx := cx.1
  have hb := cx.2.1
  have hG0 := hG
  unfold fX3_thickOf at h
  refine lv_iconst (v := 3) hx hb dX3_thickOf_0 (by decide) ?_
  refine lv_iload_n hx hb dX3_thickOf_1 rfl (lv_at hl 0 rfl) ?_
  refine lv_imul hx hb dX3_thickOf_2 ?_
  refine lv_iload_n hx hb dX3_thickOf_3 rfl (lv_at hl 0 rfl) ?_
  refine lv_imul hx hb dX3_thickOf_4 ?_
  refine lv_iconst (v := 1) hx hb dX3_thickOf_5 (by decide) ?_
  refine lv_iadd hx hb dX3_thickOf_6 ?_
  exact hret _ _ _ dX3_thickOf_7 h
-- X1_totalOf
theorem dX1_totalOf_0 : decode cX1_totalOf 0 = .ok (.iconst 0, 1) := by decide +kernel
theorem dX1_totalOf_1 : decode cX1_totalOf 1 = .ok (.istore 6, 2) := by decide +kernel
theorem dX1_totalOf_3 : decode cX1_totalOf 3 = .ok (.iload_n 1, 1) := by decide +kernel
theorem dX1_totalOf_4 : decode cX1_totalOf 4 = .ok (.istore 7, 2) := by decide +kernel
theorem dX1_totalOf_6 : decode cX1_totalOf 6 = .ok (.iconst 1, 1) := by decide +kernel
theorem dX1_totalOf_7 : decode cX1_totalOf 7 = .ok (.iload_n 2, 1) := by decide +kernel
theorem dX1_totalOf_8 : decode cX1_totalOf 8 = .ok (.isub, 1) := by decide +kernel
theorem dX1_totalOf_9 : decode cX1_totalOf 9 = .ok (.istore 8, 2) := by decide +kernel
theorem dX1_totalOf_11 : decode cX1_totalOf 11 = .ok (.iconst 0, 1) := by decide +kernel
theorem dX1_totalOf_12 : decode cX1_totalOf 12 = .ok (.istore 9, 2) := by decide +kernel
theorem dX1_totalOf_14 : decode cX1_totalOf 14 = .ok (.iload 9, 2) := by decide +kernel
theorem dX1_totalOf_16 : decode cX1_totalOf 16 = .ok (.iload_n 2, 1) := by decide +kernel
theorem dX1_totalOf_17 : decode cX1_totalOf 17 = .ok (.if_icmp .ge 87, 3) := by decide +kernel
theorem dX1_totalOf_20 : decode cX1_totalOf 20 = .ok (.iload_n 3, 1) := by decide +kernel
theorem dX1_totalOf_21 : decode cX1_totalOf 21 = .ok (.iload 9, 2) := by decide +kernel
theorem dX1_totalOf_23 : decode cX1_totalOf 23 = .ok (.ishr, 1) := by decide +kernel
theorem dX1_totalOf_24 : decode cX1_totalOf 24 = .ok (.iconst 1, 1) := by decide +kernel
theorem dX1_totalOf_25 : decode cX1_totalOf 25 = .ok (.iand, 1) := by decide +kernel
theorem dX1_totalOf_26 : decode cX1_totalOf 26 = .ok (.ifCond .ne 22, 3) := by decide +kernel
theorem dX1_totalOf_29 : decode cX1_totalOf 29 = .ok (.aload_n 0, 1) := by decide +kernel
theorem dX1_totalOf_30 : decode cX1_totalOf 30 = .ok (.getfield 15, 3) := by decide +kernel
theorem dX1_totalOf_33 : decode cX1_totalOf 33 = .ok (.iload 7, 2) := by decide +kernel
theorem dX1_totalOf_35 : decode cX1_totalOf 35 = .ok (.bipush 15, 2) := by decide +kernel
theorem dX1_totalOf_37 : decode cX1_totalOf 37 = .ok (.iand, 1) := by decide +kernel
theorem dX1_totalOf_38 : decode cX1_totalOf 38 = .ok (.bipush 9, 2) := by decide +kernel
theorem dX1_totalOf_40 : decode cX1_totalOf 40 = .ok (.imul, 1) := by decide +kernel
theorem dX1_totalOf_41 : decode cX1_totalOf 41 = .ok (.iload 5, 2) := by decide +kernel
theorem dX1_totalOf_43 : decode cX1_totalOf 43 = .ok (.iadd, 1) := by decide +kernel
theorem dX1_totalOf_44 : decode cX1_totalOf 44 = .ok (.iaload, 1) := by decide +kernel
theorem dX1_totalOf_45 : decode cX1_totalOf 45 = .ok (.goto 4, 3) := by decide +kernel
theorem dX1_totalOf_48 : decode cX1_totalOf 48 = .ok (.iconst 0, 1) := by decide +kernel
theorem dX1_totalOf_49 : decode cX1_totalOf 49 = .ok (.istore 10, 2) := by decide +kernel
theorem dX1_totalOf_51 : decode cX1_totalOf 51 = .ok (.iload 6, 2) := by decide +kernel
theorem dX1_totalOf_53 : decode cX1_totalOf 53 = .ok (.iload 4, 2) := by decide +kernel
theorem dX1_totalOf_55 : decode cX1_totalOf 55 = .ok (.iconst 2, 1) := by decide +kernel
theorem dX1_totalOf_56 : decode cX1_totalOf 56 = .ok (.if_icmp .ne 14, 3) := by decide +kernel
theorem dX1_totalOf_59 : decode cX1_totalOf 59 = .ok (.iload 8, 2) := by decide +kernel
theorem dX1_totalOf_61 : decode cX1_totalOf 61 = .ok (.invokestatic 84, 3) := by decide +kernel
theorem dX1_totalOf_64 : decode cX1_totalOf 64 = .ok (.iload 10, 2) := by decide +kernel
theorem dX1_totalOf_66 : decode cX1_totalOf 66 = .ok (.imul, 1) := by decide +kernel
theorem dX1_totalOf_67 : decode cX1_totalOf 67 = .ok (.goto 19, 3) := by decide +kernel
theorem dX1_totalOf_70 : decode cX1_totalOf 70 = .ok (.iload 4, 2) := by decide +kernel
theorem dX1_totalOf_72 : decode cX1_totalOf 72 = .ok (.iconst 1, 1) := by decide +kernel
theorem dX1_totalOf_73 : decode cX1_totalOf 73 = .ok (.if_icmp .ne 11, 3) := by decide +kernel
theorem dX1_totalOf_76 : decode cX1_totalOf 76 = .ok (.iload 8, 2) := by decide +kernel
theorem dX1_totalOf_78 : decode cX1_totalOf 78 = .ok (.iload 10, 2) := by decide +kernel
theorem dX1_totalOf_80 : decode cX1_totalOf 80 = .ok (.imul, 1) := by decide +kernel
theorem dX1_totalOf_81 : decode cX1_totalOf 81 = .ok (.goto 5, 3) := by decide +kernel
theorem dX1_totalOf_84 : decode cX1_totalOf 84 = .ok (.iload 10, 2) := by decide +kernel
theorem dX1_totalOf_86 : decode cX1_totalOf 86 = .ok (.iadd, 1) := by decide +kernel
theorem dX1_totalOf_87 : decode cX1_totalOf 87 = .ok (.istore 6, 2) := by decide +kernel
theorem dX1_totalOf_89 : decode cX1_totalOf 89 = .ok (.iload 7, 2) := by decide +kernel
theorem dX1_totalOf_91 : decode cX1_totalOf 91 = .ok (.iconst 4, 1) := by decide +kernel
theorem dX1_totalOf_92 : decode cX1_totalOf 92 = .ok (.iushr, 1) := by decide +kernel
theorem dX1_totalOf_93 : decode cX1_totalOf 93 = .ok (.istore 7, 2) := by decide +kernel
theorem dX1_totalOf_95 : decode cX1_totalOf 95 = .ok (.iinc 8 2, 3) := by decide +kernel
theorem dX1_totalOf_98 : decode cX1_totalOf 98 = .ok (.iinc 9 1, 3) := by decide +kernel
theorem dX1_totalOf_101 : decode cX1_totalOf 101 = .ok (.goto (-87), 3) := by decide +kernel
theorem dX1_totalOf_104 : decode cX1_totalOf 104 = .ok (.iload 6, 2) := by decide +kernel
theorem dX1_totalOf_106 : decode cX1_totalOf 106 = .ok (.i2l, 1) := by decide +kernel
theorem dX1_totalOf_107 : decode cX1_totalOf 107 = .ok (.lreturn, 1) := by decide +kernel
noncomputable def fX1_totalOf_86 (k14 : (Nat → Int32) → Int32 → Int32 → Int32 → Int32 → Int32 → Int32 → Int32 → Int32 → Option (Int64)) (t_cells : Nat → Int32) (v2 : Int32) (v3 : Int32) (v4 : Int32) (v5 : Int32) (v7 : Int32) (v8 : Int32) (v9 : Int32) (z0 : Int32) (z1 : Int32) : Option (Int64) := k14 t_cells v2 v3 v4 v5 (z0 + z1) (iushr v7 4) (v8 + 2) (v9 + 1)
noncomputable def fX1_totalOf_49 (k14 : (Nat → Int32) → Int32 → Int32 → Int32 → Int32 → Int32 → Int32 → Int32 → Int32 → Option (Int64)) (t_cells : Nat → Int32) (v2 : Int32) (v3 : Int32) (v4 : Int32) (v5 : Int32) (v6 : Int32) (v7 : Int32) (v8 : Int32) (v9 : Int32) (z0 : Int32) : Option (Int64) := (if v4 = 2 then fX1_totalOf_86 k14 t_cells v2 v3 v4 v5 v7 v8 v9 v6 ((fX3_thickOf v8) * z0) else (if v4 = 1 then fX1_totalOf_86 k14 t_cells v2 v3 v4 v5 v7 v8 v9 v6 (v8 * z0) else fX1_totalOf_86 k14 t_cells v2 v3 v4 v5 v7 v8 v9 v6 z0))
noncomputable def fX1_totalOf_14  : Nat → (Nat → Int32) → Int32 → Int32 → Int32 → Int32 → Int32 → Int32 → Int32 → Int32 → Option (Int64)
  | 0, _, _, _, _, _, _, _, _, _ => none
  | n + 1, t_cells, v2, v3, v4, v5, v6, v7, v8, v9 => (if v2 ≤ v9 then some v6.toInt64 else (if ((v3 >>> (v9 &&& 31)) &&& 1) = 0 then chk 144 (((v7 &&& 15) * 9) + v5) (fX1_totalOf_49 (fX1_totalOf_14 n) t_cells v2 v3 v4 v5 v6 v7 v8 v9 (t_cells (((v7 &&& 15) * 9) + v5).toNatClampNeg)) else fX1_totalOf_49 (fX1_totalOf_14 n) t_cells v2 v3 v4 v5 v6 v7 v8 v9 0))
theorem fX1_totalOf_14_z  (t_cells : Nat → Int32) (v2 : Int32) (v3 : Int32) (v4 : Int32) (v5 : Int32) (v6 : Int32) (v7 : Int32) (v8 : Int32) (v9 : Int32) : fX1_totalOf_14  0 t_cells v2 v3 v4 v5 v6 v7 v8 v9 = none := rfl
theorem fX1_totalOf_14_s  (n : Nat) (t_cells : Nat → Int32) (v2 : Int32) (v3 : Int32) (v4 : Int32) (v5 : Int32) (v6 : Int32) (v7 : Int32) (v8 : Int32) (v9 : Int32) : fX1_totalOf_14  (n + 1) t_cells v2 v3 v4 v5 v6 v7 v8 v9 = (if v2 ≤ v9 then some v6.toInt64 else (if ((v3 >>> (v9 &&& 31)) &&& 1) = 0 then chk 144 (((v7 &&& 15) * 9) + v5) (fX1_totalOf_49 (fX1_totalOf_14 n) t_cells v2 v3 v4 v5 v6 v7 v8 v9 (t_cells (((v7 &&& 15) * 9) + v5).toNatClampNeg)) else fX1_totalOf_49 (fX1_totalOf_14 n) t_cells v2 v3 v4 v5 v6 v7 v8 v9 0)) := rfl
noncomputable def fX1_totalOf  (t_cells : Nat → Int32) (v1 : Int32) (v2 : Int32) (v3 : Int32) (v4 : Int32) (v5 : Int32) : Option (Int64) := fX1_totalOf_14 FU t_cells v2 v3 v4 v5 0 v1 (1 - v2) 0
set_option maxHeartbeats 4000000 in
set_option maxRecDepth 100000 in
theorem ctX1_totalOf (l : Launch) (g : GT) (a_t : Nat → Nat) (t_told : Int32) (t_lines : Int32) (t_kinds : Int32) (t_acts : Int32) (t_cells : Nat → Int32) (v1 : Int32) (v2 : Int32) (v3 : Int32) (v4 : Int32) (v5 : Int32) (o : Int64) (h : fX1_totalOf t_cells v1 v2 v3 v4 v5 = some o) : Met l yX1_totalOf (Cond.code yX1_totalOf cX1_totalOf 11 (some .long) :: Tw) ⟨1, 0, 0, 20⟩ (va_Pc [.ref ((a_t 0)), .int v1, .int v2, .int v3, .int v4, .int v5] (roB g [((a_t 0), .inr (1, [.ref (a_t 1), .ref (a_t 2), .ref (a_t 3), .ref (a_t 4), .ref (a_t 5), .int t_told, .int t_lines, .int t_kinds, .int t_acts])), ((a_t 2), .inl (g.2.2.1 0, 144, .inl t_cells))])) (vp_Sl (fun x => x = o)) 0 0 (fun _ => False) := by
  refine ro_metl (by decide) (Nat.le_of_ble_eq_true rfl) (lv0 := [(0, .ref ((a_t 0))), (1, .int v1), (2, .int v2), (3, .int v3), (4, .int v4), (5, .int v5)]) rfl ?_
  intro p e s m args below meth c ls Q cx hret hG hP hl
  have hx := cx.1
  have hb := cx.2.1
  have hG0 := hG
  have w86 : ∀ (k14 : (Nat → Int32) → Int32 → Int32 → Int32 → Int32 → Int32 → Int32 → Int32 → Int32 → Option (Int64)) (hk14 : ∀ (v2 : Int32) (v3 : Int32) (v4 : Int32) (v5 : Int32) (v6 : Int32) (v7 : Int32) (v8 : Int32) (v9 : Int32) (ls : Array Slot), lv_has ls 11 [(0, .ref ((a_t 0))), (2, .int v2), (3, .int v3), (4, .int v4), (5, .int v5), (6, .int v6), (7, .int v7), (8, .int v8), (9, .int v9)] → k14 t_cells v2 v3 v4 v5 v6 v7 v8 v9 = some o → W p l e ⟨1, 0, 0, 20⟩ s m args below meth c s.heap [] 0 0 Q (F0 m 14 ls [])) (v2 : Int32) (v3 : Int32) (v4 : Int32) (v5 : Int32) (v7 : Int32) (v8 : Int32) (v9 : Int32) (z0 : Int32) (z1 : Int32) (ls : Array Slot), lv_has ls 11 [(0, .ref ((a_t 0))), (2, .int v2), (3, .int v3), (4, .int v4), (5, .int v5), (7, .int v7), (8, .int v8), (9, .int v9)] → fX1_totalOf_86 k14 t_cells v2 v3 v4 v5 v7 v8 v9 z0 z1 = some o → W p l e ⟨1, 0, 0, 20⟩ s m args below meth c s.heap [] 0 0 Q (F0 m 86 ls [.int z1, .int z0]) := by
    intro k14 hk14 v2 v3 v4 v5 v7 v8 v9 z0 z1 ls hl h
    unfold fX1_totalOf_86 at h
    refine lv_iadd hx hb dX1_totalOf_86 ?_
    refine lv_istore (lv' := [(6, .int (z0 + z1)), (0, .ref ((a_t 0))), (2, .int v2), (3, .int v3), (4, .int v4), (5, .int v5), (7, .int v7), (8, .int v8), (9, .int v9)]) hx hb dX1_totalOf_87 hl (by decide) rfl (fun ls hl => ?_)
    refine lv_iload hx hb dX1_totalOf_89 (lv_at hl 6 rfl) ?_
    refine lv_iconst (v := 4) hx hb dX1_totalOf_91 (by decide) ?_
    refine lv_iushr (v := iushr v7 4) hx hb dX1_totalOf_92 rfl ?_
    refine lv_istore (lv' := [(7, .int (iushr v7 4)), (6, .int (z0 + z1)), (0, .ref ((a_t 0))), (2, .int v2), (3, .int v3), (4, .int v4), (5, .int v5), (8, .int v8), (9, .int v9)]) hx hb dX1_totalOf_93 hl (by decide) rfl (fun ls hl => ?_)
    refine lv_iinc (v := v8 + 2) (lv' := [(8, .int (v8 + 2)), (7, .int (iushr v7 4)), (6, .int (z0 + z1)), (0, .ref ((a_t 0))), (2, .int v2), (3, .int v3), (4, .int v4), (5, .int v5), (9, .int v9)]) hx hb dX1_totalOf_95 hl (k := 7) rfl rfl (by decide) rfl (fun ls hl => ?_)
    refine lv_iinc (v := v9 + 1) (lv' := [(9, .int (v9 + 1)), (8, .int (v8 + 2)), (7, .int (iushr v7 4)), (6, .int (z0 + z1)), (0, .ref ((a_t 0))), (2, .int v2), (3, .int v3), (4, .int v4), (5, .int v5)]) hx hb dX1_totalOf_98 hl (k := 8) rfl rfl (by decide) rfl (fun ls hl => ?_)
    refine lv_goto (tgt := 14) hx hb dX1_totalOf_101 (by decide) ?_
    exact hk14 v2 v3 v4 v5 (z0 + z1) (iushr v7 4) (v8 + 2) (v9 + 1) _ (lv_sub hl [4, 5, 6, 7, 8, 3, 2, 1, 0] rfl) h
  have w49 : ∀ (k14 : (Nat → Int32) → Int32 → Int32 → Int32 → Int32 → Int32 → Int32 → Int32 → Int32 → Option (Int64)) (hk14 : ∀ (v2 : Int32) (v3 : Int32) (v4 : Int32) (v5 : Int32) (v6 : Int32) (v7 : Int32) (v8 : Int32) (v9 : Int32) (ls : Array Slot), lv_has ls 11 [(0, .ref ((a_t 0))), (2, .int v2), (3, .int v3), (4, .int v4), (5, .int v5), (6, .int v6), (7, .int v7), (8, .int v8), (9, .int v9)] → k14 t_cells v2 v3 v4 v5 v6 v7 v8 v9 = some o → W p l e ⟨1, 0, 0, 20⟩ s m args below meth c s.heap [] 0 0 Q (F0 m 14 ls [])) (v2 : Int32) (v3 : Int32) (v4 : Int32) (v5 : Int32) (v6 : Int32) (v7 : Int32) (v8 : Int32) (v9 : Int32) (z0 : Int32) (ls : Array Slot), lv_has ls 11 [(0, .ref ((a_t 0))), (2, .int v2), (3, .int v3), (4, .int v4), (5, .int v5), (6, .int v6), (7, .int v7), (8, .int v8), (9, .int v9)] → fX1_totalOf_49 k14 t_cells v2 v3 v4 v5 v6 v7 v8 v9 z0 = some o → W p l e ⟨1, 0, 0, 20⟩ s m args below meth c s.heap [] 0 0 Q (F0 m 49 ls [.int z0]) := by
    intro k14 hk14 v2 v3 v4 v5 v6 v7 v8 v9 z0 ls hl h
    unfold fX1_totalOf_49 at h
    refine lv_istore (lv' := [(10, .int z0), (0, .ref ((a_t 0))), (2, .int v2), (3, .int v3), (4, .int v4), (5, .int v5), (6, .int v6), (7, .int v7), (8, .int v8), (9, .int v9)]) hx hb dX1_totalOf_49 hl (by decide) rfl (fun ls hl => ?_)
    refine lv_iload hx hb dX1_totalOf_51 (lv_at hl 6 rfl) ?_
    refine lv_iload hx hb dX1_totalOf_53 (lv_at hl 4 rfl) ?_
    refine lv_iconst (v := 2) hx hb dX1_totalOf_55 (by decide) ?_
    refine lv_icmp_ne (tgt := 70) hx hb dX1_totalOf_56 (by decide) (fun c4 => ?_) (fun c4 => ?_)
    · have h := itn c4 h
      refine lv_iload hx hb dX1_totalOf_70 (lv_at hl 4 rfl) ?_
      refine lv_iconst (v := 1) hx hb dX1_totalOf_72 (by decide) ?_
      refine lv_icmp_ne (tgt := 84) hx hb dX1_totalOf_73 (by decide) (fun c5 => ?_) (fun c5 => ?_)
      · have h := itn c5 h
        refine lv_iload hx hb dX1_totalOf_84 (lv_at hl 0 rfl) ?_
        exact w86 _ hk14 v2 v3 v4 v5 v7 v8 v9 v6 z0 _ (lv_sub hl [1, 2, 3, 4, 5, 7, 8, 9] rfl) h
      · have h := itp c5 h
        refine lv_iload hx hb dX1_totalOf_76 (lv_at hl 8 rfl) ?_
        refine lv_iload hx hb dX1_totalOf_78 (lv_at hl 0 rfl) ?_
        refine lv_imul hx hb dX1_totalOf_80 ?_
        refine lv_goto (tgt := 86) hx hb dX1_totalOf_81 (by decide) ?_
        exact w86 _ hk14 v2 v3 v4 v5 v7 v8 v9 v6 (v8 * z0) _ (lv_sub hl [1, 2, 3, 4, 5, 7, 8, 9] rfl) h
    · have h := itp c4 h
      refine lv_iload hx hb dX1_totalOf_59 (lv_at hl 8 rfl) ?_
      refine ro_i (runSN (As := [.int v8]) (rest := [.int v6]) hG cx hl.1 (ctX3_thickOf l g v8 (fX3_thickOf v8) rfl) kmX3_thickOf ksX3_thickOf nm_28 ⟨rfl, rfl⟩ ⟨Nat.le_of_ble_eq_true rfl, Nat.le_of_ble_eq_true rfl⟩ (roS hG (hP.sub [] rfl)) rfl rfl (Nat.le_of_ble_eq_true rfl) dX1_totalOf_61 ⟨Nat.le_of_ble_eq_true rfl, Nat.le_of_ble_eq_true rfl⟩) ?_
      refine lv_iload hx hb dX1_totalOf_64 (lv_at hl 0 rfl) ?_
      refine lv_imul hx hb dX1_totalOf_66 ?_
      refine lv_goto (tgt := 86) hx hb dX1_totalOf_67 (by decide) ?_
      exact w86 _ hk14 v2 v3 v4 v5 v7 v8 v9 v6 ((fX3_thickOf v8) * z0) _ (lv_sub hl [1, 2, 3, 4, 5, 7, 8, 9] rfl) h
  have w14 : ∀ (n : Nat) (v2 : Int32) (v3 : Int32) (v4 : Int32) (v5 : Int32) (v6 : Int32) (v7 : Int32) (v8 : Int32) (v9 : Int32) (ls : Array Slot), lv_has ls 11 [(0, .ref ((a_t 0))), (2, .int v2), (3, .int v3), (4, .int v4), (5, .int v5), (6, .int v6), (7, .int v7), (8, .int v8), (9, .int v9)] → fX1_totalOf_14  n t_cells v2 v3 v4 v5 v6 v7 v8 v9 = some o → W p l e ⟨1, 0, 0, 20⟩ s m args below meth c s.heap [] 0 0 Q (F0 m 14 ls []) := by
    intro n
    induction n with
    | zero => intro v2 v3 v4 v5 v6 v7 v8 v9 ls hl h; cases (fX1_totalOf_14_z  t_cells v2 v3 v4 v5 v6 v7 v8 v9).symm.trans h
    | succ n ih =>
    intro v2 v3 v4 v5 v6 v7 v8 v9 ls hl h
    have h := (fX1_totalOf_14_s  n t_cells v2 v3 v4 v5 v6 v7 v8 v9).symm.trans h
    refine lv_iload hx hb dX1_totalOf_14 (lv_at hl 8 rfl) ?_
    refine lv_iload_n hx hb dX1_totalOf_16 rfl (lv_at hl 1 rfl) ?_
    refine lv_icmp_ge (tgt := 104) hx hb dX1_totalOf_17 (by decide) (fun c1 => ?_) (fun c1 => ?_)
    · have h := itp c1 h
      refine lv_iload hx hb dX1_totalOf_104 (lv_at hl 5 rfl) ?_
      refine lv_i2l (v := v6.toInt64) hx hb dX1_totalOf_106 rfl ?_
      exact hret _ _ _ dX1_totalOf_107 (Option.some.inj h)
    · have h := itn c1 h
      refine lv_iload_n hx hb dX1_totalOf_20 rfl (lv_at hl 2 rfl) ?_
      refine lv_iload hx hb dX1_totalOf_21 (lv_at hl 8 rfl) ?_
      refine lv_ishr hx hb dX1_totalOf_23 ?_
      refine lv_iconst (v := 1) hx hb dX1_totalOf_24 (by decide) ?_
      refine lv_iand hx hb dX1_totalOf_25 ?_
      refine lv_if_ne (tgt := 48) hx hb dX1_totalOf_26 (by decide) (fun c2 => ?_) (fun c2 => ?_)
      · have h := itn c2 h
        refine lv_iconst (v := 0) hx hb dX1_totalOf_48 (by decide) ?_
        exact w49 _ ih v2 v3 v4 v5 v6 v7 v8 v9 0 _ (lv_sub hl [0, 1, 2, 3, 4, 5, 6, 7, 8] rfl) h
      · have h := itp c2 h
        refine lv_aload_n hx hb dX1_totalOf_29 rfl (lv_at hl 0 rfl) ?_
        refine xa_get (C := RX1) (T := TX1) (N := 9) cx hG hP 0 rfl rfl uX1 1 (by decide) lf_X1_15 rfl dX1_totalOf_30 ?_
        refine lv_iload hx hb dX1_totalOf_33 (lv_at hl 6 rfl) ?_
        refine lv_bipush (v := 15) hx hb dX1_totalOf_35 (by decide) ?_
        refine lv_iand hx hb dX1_totalOf_37 ?_
        refine lv_bipush (v := 9) hx hb dX1_totalOf_38 (by decide) ?_
        refine lv_imul hx hb dX1_totalOf_40 ?_
        refine lv_iload hx hb dX1_totalOf_41 (lv_at hl 4 rfl) ?_
        refine lv_iadd hx hb dX1_totalOf_43 ?_
        obtain ⟨hi3, h⟩ := chk_out h
        refine xa_iald cx hG hP 1 rfl hi3 rfl dX1_totalOf_44 ?_
        refine lv_goto (tgt := 49) hx hb dX1_totalOf_45 (by decide) ?_
        exact w49 _ ih v2 v3 v4 v5 v6 v7 v8 v9 (t_cells (((v7 &&& 15) * 9) + v5).toNatClampNeg) _ (lv_sub hl [0, 1, 2, 3, 4, 5, 6, 7, 8] rfl) h
  unfold fX1_totalOf at h
  refine lv_iconst (v := 0) hx hb dX1_totalOf_0 (by decide) ?_
  refine lv_istore (lv' := [(6, .int (0)), (0, .ref ((a_t 0))), (1, .int v1), (2, .int v2), (3, .int v3), (4, .int v4), (5, .int v5)]) hx hb dX1_totalOf_1 hl (by decide) rfl (fun ls hl => ?_)
  refine lv_iload_n hx hb dX1_totalOf_3 rfl (lv_at hl 2 rfl) ?_
  refine lv_istore (lv' := [(7, .int v1), (6, .int (0)), (0, .ref ((a_t 0))), (1, .int v1), (2, .int v2), (3, .int v3), (4, .int v4), (5, .int v5)]) hx hb dX1_totalOf_4 hl (by decide) rfl (fun ls hl => ?_)
  refine lv_iconst (v := 1) hx hb dX1_totalOf_6 (by decide) ?_
  refine lv_iload_n hx hb dX1_totalOf_7 rfl (lv_at hl 4 rfl) ?_
  refine lv_isub hx hb dX1_totalOf_8 ?_
  refine lv_istore (lv' := [(8, .int (1 - v2)), (7, .int v1), (6, .int (0)), (0, .ref ((a_t 0))), (1, .int v1), (2, .int v2), (3, .int v3), (4, .int v4), (5, .int v5)]) hx hb dX1_totalOf_9 hl (by decide) rfl (fun ls hl => ?_)
  refine lv_iconst (v := 0) hx hb dX1_totalOf_11 (by decide) ?_
  refine lv_istore (lv' := [(9, .int (0)), (8, .int (1 - v2)), (7, .int v1), (6, .int (0)), (0, .ref ((a_t 0))), (1, .int v1), (2, .int v2), (3, .int v3), (4, .int v4), (5, .int v5)]) hx hb dX1_totalOf_12 hl (by decide) rfl (fun ls hl => ?_)
  exact w14 FU v2 v3 v4 v5 0 v1 (1 - v2) 0 _ (lv_sub hl [4, 6, 7, 8, 9, 3, 2, 1, 0] rfl) h
-- X1_isRowStraight
theorem dX1_isRowStraight_0 : decode cX1_isRowStraight 0 = .ok (.aload_n 0, 1) := by decide +kernel
theorem dX1_isRowStraight_1 : decode cX1_isRowStraight 1 = .ok (.iload_n 1, 1) := by decide +kernel
theorem dX1_isRowStraight_2 : decode cX1_isRowStraight 2 = .ok (.iload_n 2, 1) := by decide +kernel
theorem dX1_isRowStraight_3 : decode cX1_isRowStraight 3 = .ok (.iconst 0, 1) := by decide +kernel
theorem dX1_isRowStraight_4 : decode cX1_isRowStraight 4 = .ok (.iconst 0, 1) := by decide +kernel
theorem dX1_isRowStraight_5 : decode cX1_isRowStraight 5 = .ok (.iconst 2, 1) := by decide +kernel
theorem dX1_isRowStraight_6 : decode cX1_isRowStraight 6 = .ok (.invokevirtual 80, 3) := by decide +kernel
theorem dX1_isRowStraight_9 : decode cX1_isRowStraight 9 = .ok (.lconst 0, 1) := by decide +kernel
theorem dX1_isRowStraight_10 : decode cX1_isRowStraight 10 = .ok (.lcmp, 1) := by decide +kernel
theorem dX1_isRowStraight_11 : decode cX1_isRowStraight 11 = .ok (.ifCond .ne 21, 3) := by decide +kernel
theorem dX1_isRowStraight_14 : decode cX1_isRowStraight 14 = .ok (.aload_n 0, 1) := by decide +kernel
theorem dX1_isRowStraight_15 : decode cX1_isRowStraight 15 = .ok (.iload_n 1, 1) := by decide +kernel
theorem dX1_isRowStraight_16 : decode cX1_isRowStraight 16 = .ok (.iload_n 2, 1) := by decide +kernel
theorem dX1_isRowStraight_17 : decode cX1_isRowStraight 17 = .ok (.iconst 0, 1) := by decide +kernel
theorem dX1_isRowStraight_18 : decode cX1_isRowStraight 18 = .ok (.iconst 2, 1) := by decide +kernel
theorem dX1_isRowStraight_19 : decode cX1_isRowStraight 19 = .ok (.iconst 2, 1) := by decide +kernel
theorem dX1_isRowStraight_20 : decode cX1_isRowStraight 20 = .ok (.invokevirtual 80, 3) := by decide +kernel
theorem dX1_isRowStraight_23 : decode cX1_isRowStraight 23 = .ok (.lconst 0, 1) := by decide +kernel
theorem dX1_isRowStraight_24 : decode cX1_isRowStraight 24 = .ok (.lcmp, 1) := by decide +kernel
theorem dX1_isRowStraight_25 : decode cX1_isRowStraight 25 = .ok (.ifCond .ne 7, 3) := by decide +kernel
theorem dX1_isRowStraight_28 : decode cX1_isRowStraight 28 = .ok (.iconst 1, 1) := by decide +kernel
theorem dX1_isRowStraight_29 : decode cX1_isRowStraight 29 = .ok (.goto 4, 3) := by decide +kernel
theorem dX1_isRowStraight_32 : decode cX1_isRowStraight 32 = .ok (.iconst 0, 1) := by decide +kernel
theorem dX1_isRowStraight_33 : decode cX1_isRowStraight 33 = .ok (.ireturn, 1) := by decide +kernel
noncomputable def fX1_isRowStraight  (t_cells : Nat → Int32) (v1 : Int32) (v2 : Int32) : Option (Int32) := (fX1_totalOf t_cells v1 v2 0 0 2).bind fun r1 => (if (lg_cmp r1 0) = 0 then (fX1_totalOf t_cells v1 v2 0 2 2).bind fun r4 => (if (lg_cmp r4 0) = 0 then some (1) else some (0)) else some (0))
set_option maxHeartbeats 4000000 in
set_option maxRecDepth 100000 in
theorem ctX1_isRowStraight (l : Launch) (g : GT) (a_t : Nat → Nat) (t_told : Int32) (t_lines : Int32) (t_kinds : Int32) (t_acts : Int32) (t_cells : Nat → Int32) (v1 : Int32) (v2 : Int32) (o : Int32) (h : fX1_isRowStraight t_cells v1 v2 = some o) : Met l yX1_isRowStraight (Cond.code yX1_isRowStraight cX1_isRowStraight 3 (some .boolean) :: Tw) ⟨2, 0, 0, 50⟩ (va_Pc [.ref ((a_t 0)), .int v1, .int v2] (roB g [((a_t 0), .inr (1, [.ref (a_t 1), .ref (a_t 2), .ref (a_t 3), .ref (a_t 4), .ref (a_t 5), .int t_told, .int t_lines, .int t_kinds, .int t_acts])), ((a_t 2), .inl (g.2.2.1 0, 144, .inl t_cells))])) (vp_Si (fun x => x = o ∧ (x = 0 ∨ x = 1))) 0 0 (fun _ => False) := by
  refine ro_metz (by decide) (Nat.le_of_ble_eq_true rfl) (lv0 := [(0, .ref ((a_t 0))), (1, .int v1), (2, .int v2)]) rfl ?_
  intro p e s m args below meth c ls Q cx hret hG hP hl
  have hx := cx.1
  have hb := cx.2.1
  have hG0 := hG
  unfold fX1_isRowStraight at h
  refine lv_aload_n hx hb dX1_isRowStraight_0 rfl (lv_at hl 0 rfl) ?_
  refine lv_iload_n hx hb dX1_isRowStraight_1 rfl (lv_at hl 1 rfl) ?_
  refine lv_iload_n hx hb dX1_isRowStraight_2 rfl (lv_at hl 2 rfl) ?_
  refine lv_iconst (v := 0) hx hb dX1_isRowStraight_3 (by decide) ?_
  refine lv_iconst (v := 0) hx hb dX1_isRowStraight_4 (by decide) ?_
  refine lv_iconst (v := 2) hx hb dX1_isRowStraight_5 (by decide) ?_
  obtain ⟨r1, hr2, h⟩ := bnd h
  refine ro_l (runV (As := [.int v1, .int v2, .int (0), .int (0), .int (2)]) (rest := []) cx hl.1 (ctX1_totalOf l g a_t t_told t_lines t_kinds t_acts t_cells v1 v2 (0) (0) (2) r1 hr2) kmX1_totalOf kvX1_totalOf lm_X1_80 ⟨rfl, rfl⟩ ⟨Nat.le_of_ble_eq_true rfl, Nat.le_of_ble_eq_true rfl⟩ (roV (q0 := 0) (ci := 1) hG (hP.sub [0, 1] rfl) hP rfl rfl) rfl rfl (Nat.le_of_ble_eq_true rfl) dX1_isRowStraight_6 ⟨Nat.le_of_ble_eq_true rfl, Nat.le_of_ble_eq_true rfl⟩) ?_
  refine lv_lconst (v := 0) hx hb dX1_isRowStraight_9 (by decide) ?_
  refine W.lcmp hx hb dX1_isRowStraight_10 ?_
  refine lv_if_ne (tgt := 32) hx hb dX1_isRowStraight_11 (by decide) (fun c3 => ?_) (fun c3 => ?_)
  · have h := itn c3 h
    refine lv_iconst (v := 0) hx hb dX1_isRowStraight_32 (by decide) ?_
    exact hret _ _ _ dX1_isRowStraight_33 (by decide) (Option.some.inj h)
  · have h := itp c3 h
    refine lv_aload_n hx hb dX1_isRowStraight_14 rfl (lv_at hl 0 rfl) ?_
    refine lv_iload_n hx hb dX1_isRowStraight_15 rfl (lv_at hl 1 rfl) ?_
    refine lv_iload_n hx hb dX1_isRowStraight_16 rfl (lv_at hl 2 rfl) ?_
    refine lv_iconst (v := 0) hx hb dX1_isRowStraight_17 (by decide) ?_
    refine lv_iconst (v := 2) hx hb dX1_isRowStraight_18 (by decide) ?_
    refine lv_iconst (v := 2) hx hb dX1_isRowStraight_19 (by decide) ?_
    obtain ⟨r4, hr5, h⟩ := bnd h
    refine ro_l (runV (As := [.int v1, .int v2, .int (0), .int (2), .int (2)]) (rest := []) cx hl.1 (ctX1_totalOf l g a_t t_told t_lines t_kinds t_acts t_cells v1 v2 (0) (2) (2) r4 hr5) kmX1_totalOf kvX1_totalOf lm_X1_80 ⟨rfl, rfl⟩ ⟨Nat.le_of_ble_eq_true rfl, Nat.le_of_ble_eq_true rfl⟩ (roV (q0 := 0) (ci := 1) hG (hP.sub [0, 1] rfl) hP rfl rfl) rfl rfl (Nat.le_of_ble_eq_true rfl) dX1_isRowStraight_20 ⟨Nat.le_of_ble_eq_true rfl, Nat.le_of_ble_eq_true rfl⟩) ?_
    refine lv_lconst (v := 0) hx hb dX1_isRowStraight_23 (by decide) ?_
    refine W.lcmp hx hb dX1_isRowStraight_24 ?_
    refine lv_if_ne (tgt := 32) hx hb dX1_isRowStraight_25 (by decide) (fun c6 => ?_) (fun c6 => ?_)
    · have h := itn c6 h
      refine lv_iconst (v := 0) hx hb dX1_isRowStraight_32 (by decide) ?_
      exact hret _ _ _ dX1_isRowStraight_33 (by decide) (Option.some.inj h)
    · have h := itp c6 h
      refine lv_iconst (v := 1) hx hb dX1_isRowStraight_28 (by decide) ?_
      refine lv_goto (tgt := 33) hx hb dX1_isRowStraight_29 (by decide) ?_
      exact hret _ _ _ dX1_isRowStraight_33 (by decide) (Option.some.inj h)
-- X1_isRowFlat
theorem dX1_isRowFlat_0 : decode cX1_isRowFlat 0 = .ok (.getstatic 108, 3) := by decide +kernel
theorem dX1_isRowFlat_3 : decode cX1_isRowFlat 3 = .ok (.astore_n 3, 1) := by decide +kernel
theorem dX1_isRowFlat_4 : decode cX1_isRowFlat 4 = .ok (.aload_n 3, 1) := by decide +kernel
theorem dX1_isRowFlat_5 : decode cX1_isRowFlat 5 = .ok (.arraylength, 1) := by decide +kernel
theorem dX1_isRowFlat_6 : decode cX1_isRowFlat 6 = .ok (.istore 4, 2) := by decide +kernel
theorem dX1_isRowFlat_8 : decode cX1_isRowFlat 8 = .ok (.iconst 0, 1) := by decide +kernel
theorem dX1_isRowFlat_9 : decode cX1_isRowFlat 9 = .ok (.istore 5, 2) := by decide +kernel
theorem dX1_isRowFlat_11 : decode cX1_isRowFlat 11 = .ok (.iload 5, 2) := by decide +kernel
theorem dX1_isRowFlat_13 : decode cX1_isRowFlat 13 = .ok (.iload 4, 2) := by decide +kernel
theorem dX1_isRowFlat_15 : decode cX1_isRowFlat 15 = .ok (.if_icmp .ge 32, 3) := by decide +kernel
theorem dX1_isRowFlat_18 : decode cX1_isRowFlat 18 = .ok (.aload_n 3, 1) := by decide +kernel
theorem dX1_isRowFlat_19 : decode cX1_isRowFlat 19 = .ok (.iload 5, 2) := by decide +kernel
theorem dX1_isRowFlat_21 : decode cX1_isRowFlat 21 = .ok (.iaload, 1) := by decide +kernel
theorem dX1_isRowFlat_22 : decode cX1_isRowFlat 22 = .ok (.istore 6, 2) := by decide +kernel
theorem dX1_isRowFlat_24 : decode cX1_isRowFlat 24 = .ok (.aload_n 0, 1) := by decide +kernel
theorem dX1_isRowFlat_25 : decode cX1_isRowFlat 25 = .ok (.iload_n 1, 1) := by decide +kernel
theorem dX1_isRowFlat_26 : decode cX1_isRowFlat 26 = .ok (.iload_n 2, 1) := by decide +kernel
theorem dX1_isRowFlat_27 : decode cX1_isRowFlat 27 = .ok (.iconst 0, 1) := by decide +kernel
theorem dX1_isRowFlat_28 : decode cX1_isRowFlat 28 = .ok (.iconst 1, 1) := by decide +kernel
theorem dX1_isRowFlat_29 : decode cX1_isRowFlat 29 = .ok (.iload 6, 2) := by decide +kernel
theorem dX1_isRowFlat_31 : decode cX1_isRowFlat 31 = .ok (.invokevirtual 80, 3) := by decide +kernel
theorem dX1_isRowFlat_34 : decode cX1_isRowFlat 34 = .ok (.lconst 0, 1) := by decide +kernel
theorem dX1_isRowFlat_35 : decode cX1_isRowFlat 35 = .ok (.lcmp, 1) := by decide +kernel
theorem dX1_isRowFlat_36 : decode cX1_isRowFlat 36 = .ok (.ifCond .eq 5, 3) := by decide +kernel
theorem dX1_isRowFlat_39 : decode cX1_isRowFlat 39 = .ok (.iconst 0, 1) := by decide +kernel
theorem dX1_isRowFlat_40 : decode cX1_isRowFlat 40 = .ok (.ireturn, 1) := by decide +kernel
theorem dX1_isRowFlat_41 : decode cX1_isRowFlat 41 = .ok (.iinc 5 1, 3) := by decide +kernel
theorem dX1_isRowFlat_44 : decode cX1_isRowFlat 44 = .ok (.goto (-33), 3) := by decide +kernel
theorem dX1_isRowFlat_47 : decode cX1_isRowFlat 47 = .ok (.iconst 1, 1) := by decide +kernel
theorem dX1_isRowFlat_48 : decode cX1_isRowFlat 48 = .ok (.ireturn, 1) := by decide +kernel
noncomputable def fX1_isRowFlat_11  : Nat → (Nat → Int32) → Int32 → Int32 → Int32 → Int32 → Option (Int32)
  | 0, _, _, _, _, _ => none
  | n + 1, t_cells, v1, v2, v4, v5 => (if v4 ≤ v5 then some (1) else chk 5 v5 ((fX1_totalOf t_cells v1 v2 0 1 (stF 5 v5.toNatClampNeg)).bind fun r3 => (if (lg_cmp r3 0) = 0 then fX1_isRowFlat_11 n t_cells v1 v2 v4 (v5 + 1) else some (0))))
theorem fX1_isRowFlat_11_z  (t_cells : Nat → Int32) (v1 : Int32) (v2 : Int32) (v4 : Int32) (v5 : Int32) : fX1_isRowFlat_11  0 t_cells v1 v2 v4 v5 = none := rfl
theorem fX1_isRowFlat_11_s  (n : Nat) (t_cells : Nat → Int32) (v1 : Int32) (v2 : Int32) (v4 : Int32) (v5 : Int32) : fX1_isRowFlat_11  (n + 1) t_cells v1 v2 v4 v5 = (if v4 ≤ v5 then some (1) else chk 5 v5 ((fX1_totalOf t_cells v1 v2 0 1 (stF 5 v5.toNatClampNeg)).bind fun r3 => (if (lg_cmp r3 0) = 0 then fX1_isRowFlat_11 n t_cells v1 v2 v4 (v5 + 1) else some (0)))) := rfl
noncomputable def fX1_isRowFlat  (t_cells : Nat → Int32) (v1 : Int32) (v2 : Int32) : Option (Int32) := fX1_isRowFlat_11 FU t_cells v1 v2 5 0
set_option maxHeartbeats 4000000 in
set_option maxRecDepth 100000 in
theorem ctX1_isRowFlat (l : Launch) (g : GT) (a_t : Nat → Nat) (t_told : Int32) (t_lines : Int32) (t_kinds : Int32) (t_acts : Int32) (t_cells : Nat → Int32) (v1 : Int32) (v2 : Int32) (o : Int32) (h : fX1_isRowFlat t_cells v1 v2 = some o) : Met l yX1_isRowFlat (Cond.code yX1_isRowFlat cX1_isRowFlat 7 (some .boolean) :: Tw) ⟨2, 0, 0, 50⟩ (va_Pc [.ref ((a_t 0)), .int v1, .int v2] (roB g [((a_t 0), .inr (1, [.ref (a_t 1), .ref (a_t 2), .ref (a_t 3), .ref (a_t 4), .ref (a_t 5), .int t_told, .int t_lines, .int t_kinds, .int t_acts])), ((a_t 2), .inl (g.2.2.1 0, 144, .inl t_cells))])) (vp_Si (fun x => x = o ∧ (x = 0 ∨ x = 1))) 0 0 (fun _ => False) := by
  refine ro_metz (by decide) (Nat.le_of_ble_eq_true rfl) (lv0 := [(0, .ref ((a_t 0))), (1, .int v1), (2, .int v2)]) rfl ?_
  intro p e s m args below meth c ls Q cx hret hG hP hl
  have hx := cx.1
  have hb := cx.2.1
  have hG0 := hG
  have w11 : ∀ (n : Nat) (v1 : Int32) (v2 : Int32) (v4 : Int32) (v5 : Int32) (ls : Array Slot), lv_has ls 7 [(0, .ref ((a_t 0))), (1, .int v1), (2, .int v2), (3, .ref ((g.2.2.2.1 5))), (4, .int v4), (5, .int v5)] → fX1_isRowFlat_11  n t_cells v1 v2 v4 v5 = some o → W p l e ⟨2, 0, 0, 50⟩ s m args below meth c s.heap [] 0 0 Q (F0 m 11 ls []) := by
    intro n
    induction n with
    | zero => intro v1 v2 v4 v5 ls hl h; cases (fX1_isRowFlat_11_z  t_cells v1 v2 v4 v5).symm.trans h
    | succ n ih =>
    intro v1 v2 v4 v5 ls hl h
    have h := (fX1_isRowFlat_11_s  n t_cells v1 v2 v4 v5).symm.trans h
    refine lv_iload hx hb dX1_isRowFlat_11 (lv_at hl 5 rfl) ?_
    refine lv_iload hx hb dX1_isRowFlat_13 (lv_at hl 4 rfl) ?_
    refine lv_icmp_ge (tgt := 47) hx hb dX1_isRowFlat_15 (by decide) (fun c1 => ?_) (fun c1 => ?_)
    · have h := itp c1 h
      refine lv_iconst (v := 1) hx hb dX1_isRowFlat_47 (by decide) ?_
      exact hret _ _ _ dX1_isRowFlat_48 (by decide) (Option.some.inj h)
    · have h := itn c1 h
      refine lv_aload_n hx hb dX1_isRowFlat_18 rfl (lv_at hl 3 rfl) ?_
      refine lv_iload hx hb dX1_isRowFlat_19 (lv_at hl 5 rfl) ?_
      obtain ⟨hi2, h⟩ := chk_out h
      refine xs_ald (v := stF 5 v5.toNatClampNeg) cx hG0 va_S.rf 5 ⟨rfl, rfl⟩ hi2 rfl dX1_isRowFlat_21 ?_
      refine lv_istore (lv' := [(6, .int (stF 5 v5.toNatClampNeg)), (0, .ref ((a_t 0))), (1, .int v1), (2, .int v2), (3, .ref ((g.2.2.2.1 5))), (4, .int v4), (5, .int v5)]) hx hb dX1_isRowFlat_22 hl (by decide) rfl (fun ls hl => ?_)
      refine lv_aload_n hx hb dX1_isRowFlat_24 rfl (lv_at hl 1 rfl) ?_
      refine lv_iload_n hx hb dX1_isRowFlat_25 rfl (lv_at hl 2 rfl) ?_
      refine lv_iload_n hx hb dX1_isRowFlat_26 rfl (lv_at hl 3 rfl) ?_
      refine lv_iconst (v := 0) hx hb dX1_isRowFlat_27 (by decide) ?_
      refine lv_iconst (v := 1) hx hb dX1_isRowFlat_28 (by decide) ?_
      refine lv_iload hx hb dX1_isRowFlat_29 (lv_at hl 0 rfl) ?_
      obtain ⟨r3, hr4, h⟩ := bnd h
      refine ro_l (runV (As := [.int v1, .int v2, .int (0), .int (1), .int (stF 5 v5.toNatClampNeg)]) (rest := []) cx hl.1 (ctX1_totalOf l g a_t t_told t_lines t_kinds t_acts t_cells v1 v2 (0) (1) (stF 5 v5.toNatClampNeg) r3 hr4) kmX1_totalOf kvX1_totalOf lm_X1_80 ⟨rfl, rfl⟩ ⟨Nat.le_of_ble_eq_true rfl, Nat.le_of_ble_eq_true rfl⟩ (roV (q0 := 0) (ci := 1) hG (hP.sub [0, 1] rfl) hP rfl rfl) rfl rfl (Nat.le_of_ble_eq_true rfl) dX1_isRowFlat_31 ⟨Nat.le_of_ble_eq_true rfl, Nat.le_of_ble_eq_true rfl⟩) ?_
      refine lv_lconst (v := 0) hx hb dX1_isRowFlat_34 (by decide) ?_
      refine W.lcmp hx hb dX1_isRowFlat_35 ?_
      refine lv_if_eq (tgt := 41) hx hb dX1_isRowFlat_36 (by decide) (fun c5 => ?_) (fun c5 => ?_)
      · have h := itp c5 h
        refine lv_iinc (v := v5 + 1) (lv' := [(5, .int (v5 + 1)), (6, .int (stF 5 v5.toNatClampNeg)), (0, .ref ((a_t 0))), (1, .int v1), (2, .int v2), (3, .ref ((g.2.2.2.1 5))), (4, .int v4)]) hx hb dX1_isRowFlat_41 hl (k := 6) rfl rfl (by decide) rfl (fun ls hl => ?_)
        refine lv_goto (tgt := 11) hx hb dX1_isRowFlat_44 (by decide) ?_
        exact ih v1 v2 v4 (v5 + 1) _ (lv_sub hl [2, 3, 4, 5, 6, 0] rfl) h
      · have h := itn c5 h
        refine lv_iconst (v := 0) hx hb dX1_isRowFlat_39 (by decide) ?_
        exact hret _ _ _ dX1_isRowFlat_40 (by decide) (Option.some.inj h)
  unfold fX1_isRowFlat at h
  refine xs_get cx hG0 va_S.rf 5 rfl lf_X1_108 dX1_isRowFlat_0 ?_
  refine lv_astore_n (lv' := [(3, .ref ((g.2.2.2.1 5))), (0, .ref ((a_t 0))), (1, .int v1), (2, .int v2)]) hx hb dX1_isRowFlat_3 rfl hl (by decide) rfl (fun ls hl => ?_)
  refine lv_aload_n hx hb dX1_isRowFlat_4 rfl (lv_at hl 0 rfl) ?_
  refine xs_len cx hG0 va_S.rf 5 rfl (v := 5) rfl dX1_isRowFlat_5 ?_
  refine lv_istore (lv' := [(4, .int (5)), (3, .ref ((g.2.2.2.1 5))), (0, .ref ((a_t 0))), (1, .int v1), (2, .int v2)]) hx hb dX1_isRowFlat_6 hl (by decide) rfl (fun ls hl => ?_)
  refine lv_iconst (v := 0) hx hb dX1_isRowFlat_8 (by decide) ?_
  refine lv_istore (lv' := [(5, .int (0)), (4, .int (5)), (3, .ref ((g.2.2.2.1 5))), (0, .ref ((a_t 0))), (1, .int v1), (2, .int v2)]) hx hb dX1_isRowFlat_9 hl (by decide) rfl (fun ls hl => ?_)
  exact w11 FU v1 v2 5 0 _ (lv_sub hl [3, 4, 5, 2, 1, 0] rfl) h
-- X1_shape
theorem dX1_shape_0 : decode cX1_shape 0 = .ok (.iload_n 1, 1) := by decide +kernel
theorem dX1_shape_1 : decode cX1_shape 1 = .ok (.iload_n 2, 1) := by decide +kernel
theorem dX1_shape_2 : decode cX1_shape 2 = .ok (.invokestatic 98, 3) := by decide +kernel
theorem dX1_shape_5 : decode cX1_shape 5 = .ok (.ifCond .eq 7, 3) := by decide +kernel
theorem dX1_shape_8 : decode cX1_shape 8 = .ok (.iconst 1, 1) := by decide +kernel
theorem dX1_shape_9 : decode cX1_shape 9 = .ok (.goto 4, 3) := by decide +kernel
theorem dX1_shape_12 : decode cX1_shape 12 = .ok (.iconst 0, 1) := by decide +kernel
theorem dX1_shape_13 : decode cX1_shape 13 = .ok (.istore_n 3, 1) := by decide +kernel
theorem dX1_shape_14 : decode cX1_shape 14 = .ok (.iload_n 3, 1) := by decide +kernel
theorem dX1_shape_15 : decode cX1_shape 15 = .ok (.ifCond .ne 12, 3) := by decide +kernel
theorem dX1_shape_18 : decode cX1_shape 18 = .ok (.aload_n 0, 1) := by decide +kernel
theorem dX1_shape_19 : decode cX1_shape 19 = .ok (.iload_n 1, 1) := by decide +kernel
theorem dX1_shape_20 : decode cX1_shape 20 = .ok (.iload_n 2, 1) := by decide +kernel
theorem dX1_shape_21 : decode cX1_shape 21 = .ok (.invokevirtual 102, 3) := by decide +kernel
theorem dX1_shape_24 : decode cX1_shape 24 = .ok (.ifCond .eq 7, 3) := by decide +kernel
theorem dX1_shape_27 : decode cX1_shape 27 = .ok (.iload_n 3, 1) := by decide +kernel
theorem dX1_shape_28 : decode cX1_shape 28 = .ok (.iconst 2, 1) := by decide +kernel
theorem dX1_shape_29 : decode cX1_shape 29 = .ok (.ior, 1) := by decide +kernel
theorem dX1_shape_30 : decode cX1_shape 30 = .ok (.istore_n 3, 1) := by decide +kernel
theorem dX1_shape_31 : decode cX1_shape 31 = .ok (.aload_n 0, 1) := by decide +kernel
theorem dX1_shape_32 : decode cX1_shape 32 = .ok (.iload_n 1, 1) := by decide +kernel
theorem dX1_shape_33 : decode cX1_shape 33 = .ok (.iload_n 2, 1) := by decide +kernel
theorem dX1_shape_34 : decode cX1_shape 34 = .ok (.invokevirtual 105, 3) := by decide +kernel
theorem dX1_shape_37 : decode cX1_shape 37 = .ok (.ifCond .eq 9, 3) := by decide +kernel
theorem dX1_shape_40 : decode cX1_shape 40 = .ok (.iload_n 3, 1) := by decide +kernel
theorem dX1_shape_41 : decode cX1_shape 41 = .ok (.iconst 4, 1) := by decide +kernel
theorem dX1_shape_42 : decode cX1_shape 42 = .ok (.ior, 1) := by decide +kernel
theorem dX1_shape_43 : decode cX1_shape 43 = .ok (.goto 4, 3) := by decide +kernel
theorem dX1_shape_46 : decode cX1_shape 46 = .ok (.iload_n 3, 1) := by decide +kernel
theorem dX1_shape_47 : decode cX1_shape 47 = .ok (.ireturn, 1) := by decide +kernel
noncomputable def fX1_shape_31  (t_cells : Nat → Int32) (v1 : Int32) (v2 : Int32) (v3 : Int32) : Option (Int32) := (fX1_isRowStraight t_cells v1 v2).bind fun r10 => (if r10 = 0 then some v3 else some (v3 ||| 4))
noncomputable def fX1_shape_27  (t_cells : Nat → Int32) (v1 : Int32) (v2 : Int32) (v3 : Int32) : Option (Int32) := fX1_shape_31 t_cells v1 v2 (v3 ||| 2)
noncomputable def fX1_shape_13  (t_cells : Nat → Int32) (v1 : Int32) (v2 : Int32) (z0 : Int32) : Option (Int32) := (if z0 = 0 then (fX1_isRowFlat t_cells v1 v2).bind fun r6 => (if r6 = 0 then fX1_shape_31 t_cells v1 v2 z0 else fX1_shape_27 t_cells v1 v2 z0) else fX1_shape_27 t_cells v1 v2 z0)
noncomputable def fX1_shape  (t_cells : Nat → Int32) (v1 : Int32) (v2 : Int32) : Option (Int32) := (fX3_isMirrored v1 v2).bind fun r1 => (if r1 = 0 then fX1_shape_13 t_cells v1 v2 0 else fX1_shape_13 t_cells v1 v2 1)
set_option maxHeartbeats 4000000 in
set_option maxRecDepth 100000 in
theorem ctX1_shape (l : Launch) (g : GT) (a_t : Nat → Nat) (t_told : Int32) (t_lines : Int32) (t_kinds : Int32) (t_acts : Int32) (t_cells : Nat → Int32) (v1 : Int32) (v2 : Int32) (o : Int32) (h : fX1_shape t_cells v1 v2 = some o) : Met l yX1_shape (Cond.code yX1_shape cX1_shape 4 (some .int) :: Tw) ⟨3, 0, 0, 76⟩ (va_Pc [.ref ((a_t 0)), .int v1, .int v2] (roB g [((a_t 0), .inr (1, [.ref (a_t 1), .ref (a_t 2), .ref (a_t 3), .ref (a_t 4), .ref (a_t 5), .int t_told, .int t_lines, .int t_kinds, .int t_acts])), ((a_t 2), .inl (g.2.2.1 0, 144, .inl t_cells))])) (vp_Si (fun x => x = o)) 0 0 (fun _ => False) := by
  refine ro_meti (by decide) (Nat.le_of_ble_eq_true rfl) (lv0 := [(0, .ref ((a_t 0))), (1, .int v1), (2, .int v2)]) rfl ?_
  intro p e s m args below meth c ls Q cx hret hG hP hl
  have hx := cx.1
  have hb := cx.2.1
  have hG0 := hG
  have w31 : ∀ (v1 : Int32) (v2 : Int32) (v3 : Int32) (ls : Array Slot), lv_has ls 4 [(0, .ref ((a_t 0))), (1, .int v1), (2, .int v2), (3, .int v3)] → fX1_shape_31  t_cells v1 v2 v3 = some o → W p l e ⟨3, 0, 0, 76⟩ s m args below meth c s.heap [] 0 0 Q (F0 m 31 ls []) := by
    intro v1 v2 v3 ls hl h
    unfold fX1_shape_31 at h
    refine lv_aload_n hx hb dX1_shape_31 rfl (lv_at hl 0 rfl) ?_
    refine lv_iload_n hx hb dX1_shape_32 rfl (lv_at hl 1 rfl) ?_
    refine lv_iload_n hx hb dX1_shape_33 rfl (lv_at hl 2 rfl) ?_
    obtain ⟨r10, hr11, h⟩ := bnd h
    refine ro_z (runV (As := [.int v1, .int v2]) (rest := []) cx hl.1 (ctX1_isRowStraight l g a_t t_told t_lines t_kinds t_acts t_cells v1 v2 r10 hr11) kmX1_isRowStraight kvX1_isRowStraight lm_X1_105 ⟨rfl, rfl⟩ ⟨Nat.le_of_ble_eq_true rfl, Nat.le_of_ble_eq_true rfl⟩ (roV (q0 := 0) (ci := 1) hG (hP.sub [0, 1] rfl) hP rfl rfl) rfl rfl (Nat.le_of_ble_eq_true rfl) dX1_shape_34 ⟨Nat.le_of_ble_eq_true rfl, Nat.le_of_ble_eq_true rfl⟩) (fun hz12 => ?_)
    refine lv_if_eq (tgt := 46) hx hb dX1_shape_37 (by decide) (fun c13 => ?_) (fun c13 => ?_)
    · have h := itp c13 h
      refine lv_iload_n hx hb dX1_shape_46 rfl (lv_at hl 3 rfl) ?_
      exact hret _ _ _ dX1_shape_47 (Option.some.inj h)
    · have h := itn c13 h
      refine lv_iload_n hx hb dX1_shape_40 rfl (lv_at hl 3 rfl) ?_
      refine lv_iconst (v := 4) hx hb dX1_shape_41 (by decide) ?_
      refine lv_ior hx hb dX1_shape_42 ?_
      refine lv_goto (tgt := 47) hx hb dX1_shape_43 (by decide) ?_
      exact hret _ _ _ dX1_shape_47 (Option.some.inj h)
  have w27 : ∀ (v1 : Int32) (v2 : Int32) (v3 : Int32) (ls : Array Slot), lv_has ls 4 [(0, .ref ((a_t 0))), (1, .int v1), (2, .int v2), (3, .int v3)] → fX1_shape_27  t_cells v1 v2 v3 = some o → W p l e ⟨3, 0, 0, 76⟩ s m args below meth c s.heap [] 0 0 Q (F0 m 27 ls []) := by
    intro v1 v2 v3 ls hl h
    unfold fX1_shape_27 at h
    refine lv_iload_n hx hb dX1_shape_27 rfl (lv_at hl 3 rfl) ?_
    refine lv_iconst (v := 2) hx hb dX1_shape_28 (by decide) ?_
    refine lv_ior hx hb dX1_shape_29 ?_
    refine lv_istore_n (lv' := [(3, .int (v3 ||| 2)), (0, .ref ((a_t 0))), (1, .int v1), (2, .int v2)]) hx hb dX1_shape_30 rfl hl (by decide) rfl (fun ls hl => ?_)
    exact w31 v1 v2 (v3 ||| 2) _ (lv_sub hl [1, 2, 3, 0] rfl) h
  have w13 : ∀ (v1 : Int32) (v2 : Int32) (z0 : Int32) (ls : Array Slot), lv_has ls 4 [(0, .ref ((a_t 0))), (1, .int v1), (2, .int v2)] → fX1_shape_13  t_cells v1 v2 z0 = some o → W p l e ⟨3, 0, 0, 76⟩ s m args below meth c s.heap [] 0 0 Q (F0 m 13 ls [.int z0]) := by
    intro v1 v2 z0 ls hl h
    unfold fX1_shape_13 at h
    refine lv_istore_n (lv' := [(3, .int z0), (0, .ref ((a_t 0))), (1, .int v1), (2, .int v2)]) hx hb dX1_shape_13 rfl hl (by decide) rfl (fun ls hl => ?_)
    refine lv_iload_n hx hb dX1_shape_14 rfl (lv_at hl 0 rfl) ?_
    refine lv_if_ne (tgt := 27) hx hb dX1_shape_15 (by decide) (fun c5 => ?_) (fun c5 => ?_)
    · have h := itn c5 h
      exact w27 v1 v2 z0 _ (lv_sub hl [1, 2, 3, 0] rfl) h
    · have h := itp c5 h
      refine lv_aload_n hx hb dX1_shape_18 rfl (lv_at hl 1 rfl) ?_
      refine lv_iload_n hx hb dX1_shape_19 rfl (lv_at hl 2 rfl) ?_
      refine lv_iload_n hx hb dX1_shape_20 rfl (lv_at hl 3 rfl) ?_
      obtain ⟨r6, hr7, h⟩ := bnd h
      refine ro_z (runV (As := [.int v1, .int v2]) (rest := []) cx hl.1 (ctX1_isRowFlat l g a_t t_told t_lines t_kinds t_acts t_cells v1 v2 r6 hr7) kmX1_isRowFlat kvX1_isRowFlat lm_X1_102 ⟨rfl, rfl⟩ ⟨Nat.le_of_ble_eq_true rfl, Nat.le_of_ble_eq_true rfl⟩ (roV (q0 := 0) (ci := 1) hG (hP.sub [0, 1] rfl) hP rfl rfl) rfl rfl (Nat.le_of_ble_eq_true rfl) dX1_shape_21 ⟨Nat.le_of_ble_eq_true rfl, Nat.le_of_ble_eq_true rfl⟩) (fun hz8 => ?_)
      refine lv_if_eq (tgt := 31) hx hb dX1_shape_24 (by decide) (fun c9 => ?_) (fun c9 => ?_)
      · have h := itp c9 h
        exact w31 v1 v2 z0 _ (lv_sub hl [1, 2, 3, 0] rfl) h
      · have h := itn c9 h
        exact w27 v1 v2 z0 _ (lv_sub hl [1, 2, 3, 0] rfl) h
  unfold fX1_shape at h
  refine lv_iload_n hx hb dX1_shape_0 rfl (lv_at hl 1 rfl) ?_
  refine lv_iload_n hx hb dX1_shape_1 rfl (lv_at hl 2 rfl) ?_
  obtain ⟨r1, hr2, h⟩ := bnd h
  refine ro_z (runSN (As := [.int v1, .int v2]) (rest := []) hG cx hl.1 (ctX3_isMirrored l g v1 v2 r1 hr2) kmX3_isMirrored ksX3_isMirrored nm_30 ⟨rfl, rfl⟩ ⟨Nat.le_of_ble_eq_true rfl, Nat.le_of_ble_eq_true rfl⟩ (roS hG (hP.sub [] rfl)) rfl rfl (Nat.le_of_ble_eq_true rfl) dX1_shape_2 ⟨Nat.le_of_ble_eq_true rfl, Nat.le_of_ble_eq_true rfl⟩) (fun hz3 => ?_)
  refine lv_if_eq (tgt := 12) hx hb dX1_shape_5 (by decide) (fun c4 => ?_) (fun c4 => ?_)
  · have h := itp c4 h
    refine lv_iconst (v := 0) hx hb dX1_shape_12 (by decide) ?_
    exact w13 v1 v2 0 _ (lv_sub hl [0, 1, 2] rfl) h
  · have h := itn c4 h
    refine lv_iconst (v := 1) hx hb dX1_shape_8 (by decide) ?_
    refine lv_goto (tgt := 13) hx hb dX1_shape_9 (by decide) ?_
    exact w13 v1 v2 1 _ (lv_sub hl [0, 1, 2] rfl) h
-- X1_suits
theorem dX1_suits_0 : decode cX1_suits 0 = .ok (.iload_n 1, 1) := by decide +kernel
theorem dX1_suits_1 : decode cX1_suits 1 = .ok (.iload_n 2, 1) := by decide +kernel
theorem dX1_suits_2 : decode cX1_suits 2 = .ok (.invokestatic 111, 3) := by decide +kernel
theorem dX1_suits_5 : decode cX1_suits 5 = .ok (.aload_n 0, 1) := by decide +kernel
theorem dX1_suits_6 : decode cX1_suits 6 = .ok (.invokevirtual 114, 3) := by decide +kernel
theorem dX1_suits_9 : decode cX1_suits 9 = .ok (.if_icmp .gt 19, 3) := by decide +kernel
theorem dX1_suits_12 : decode cX1_suits 12 = .ok (.aload_n 0, 1) := by decide +kernel
theorem dX1_suits_13 : decode cX1_suits 13 = .ok (.iload_n 1, 1) := by decide +kernel
theorem dX1_suits_14 : decode cX1_suits 14 = .ok (.iload_n 2, 1) := by decide +kernel
theorem dX1_suits_15 : decode cX1_suits 15 = .ok (.invokevirtual 117, 3) := by decide +kernel
theorem dX1_suits_18 : decode cX1_suits 18 = .ok (.iload_n 3, 1) := by decide +kernel
theorem dX1_suits_19 : decode cX1_suits 19 = .ok (.iand, 1) := by decide +kernel
theorem dX1_suits_20 : decode cX1_suits 20 = .ok (.iload_n 3, 1) := by decide +kernel
theorem dX1_suits_21 : decode cX1_suits 21 = .ok (.if_icmp .ne 7, 3) := by decide +kernel
theorem dX1_suits_24 : decode cX1_suits 24 = .ok (.iconst 1, 1) := by decide +kernel
theorem dX1_suits_25 : decode cX1_suits 25 = .ok (.goto 4, 3) := by decide +kernel
theorem dX1_suits_28 : decode cX1_suits 28 = .ok (.iconst 0, 1) := by decide +kernel
theorem dX1_suits_29 : decode cX1_suits 29 = .ok (.ireturn, 1) := by decide +kernel
noncomputable def fX1_suits  (t_cells : Nat → Int32) (t_rooms : Nat → Int32) (t_acts : Int32) (v1 : Int32) (v2 : Int32) (v3 : Int32) : Option (Int32) := (fX3_longestRun v1 v2).bind fun r1 => (fX1_roomNow t_rooms t_acts).bind fun r3 => (if r3 < r1 then some (0) else (fX1_shape t_cells v1 v2).bind fun r6 => (if (r6 &&& v3) = v3 then some (1) else some (0)))
set_option maxHeartbeats 4000000 in
set_option maxRecDepth 100000 in
theorem ctX1_suits (l : Launch) (g : GT) (a_t : Nat → Nat) (t_told : Int32) (t_lines : Int32) (t_kinds : Int32) (t_acts : Int32) (t_cells : Nat → Int32) (t_rooms : Nat → Int32) (v1 : Int32) (v2 : Int32) (v3 : Int32) (o : Int32) (h : fX1_suits t_cells t_rooms t_acts v1 v2 v3 = some o) : Met l yX1_suits (Cond.code yX1_suits cX1_suits 4 (some .boolean) :: Tw) ⟨4, 0, 0, 99⟩ (va_Pc [.ref ((a_t 0)), .int v1, .int v2, .int v3] (roB g [((a_t 0), .inr (1, [.ref (a_t 1), .ref (a_t 2), .ref (a_t 3), .ref (a_t 4), .ref (a_t 5), .int t_told, .int t_lines, .int t_kinds, .int t_acts])), ((a_t 2), .inl (g.2.2.1 0, 144, .inl t_cells)), ((a_t 5), .inl (g.2.2.1 0, 31, .inl t_rooms))])) (vp_Si (fun x => x = o ∧ (x = 0 ∨ x = 1))) 0 0 (fun _ => False) := by
  refine ro_metz (by decide) (Nat.le_of_ble_eq_true rfl) (lv0 := [(0, .ref ((a_t 0))), (1, .int v1), (2, .int v2), (3, .int v3)]) rfl ?_
  intro p e s m args below meth c ls Q cx hret hG hP hl
  have hx := cx.1
  have hb := cx.2.1
  have hG0 := hG
  unfold fX1_suits at h
  refine lv_iload_n hx hb dX1_suits_0 rfl (lv_at hl 1 rfl) ?_
  refine lv_iload_n hx hb dX1_suits_1 rfl (lv_at hl 2 rfl) ?_
  obtain ⟨r1, hr2, h⟩ := bnd h
  refine ro_i (runSN (As := [.int v1, .int v2]) (rest := []) hG cx hl.1 (ctX3_longestRun l g v1 v2 r1 hr2) kmX3_longestRun ksX3_longestRun nm_86 ⟨rfl, rfl⟩ ⟨Nat.le_of_ble_eq_true rfl, Nat.le_of_ble_eq_true rfl⟩ (roS hG (hP.sub [] rfl)) rfl rfl (Nat.le_of_ble_eq_true rfl) dX1_suits_2 ⟨Nat.le_of_ble_eq_true rfl, Nat.le_of_ble_eq_true rfl⟩) ?_
  refine lv_aload_n hx hb dX1_suits_5 rfl (lv_at hl 0 rfl) ?_
  obtain ⟨r3, hr4, h⟩ := bnd h
  refine ro_i (runV (As := []) (rest := [.int r1]) cx hl.1 (ctX1_roomNow l g a_t t_told t_lines t_kinds t_acts t_rooms r3 hr4) kmX1_roomNow kvX1_roomNow lm_X1_114 ⟨rfl, rfl⟩ ⟨Nat.le_of_ble_eq_true rfl, Nat.le_of_ble_eq_true rfl⟩ (roV (q0 := 0) (ci := 1) hG (hP.sub [0, 2] rfl) hP rfl rfl) rfl rfl (Nat.le_of_ble_eq_true rfl) dX1_suits_6 ⟨Nat.le_of_ble_eq_true rfl, Nat.le_of_ble_eq_true rfl⟩) ?_
  refine lv_icmp_gt (tgt := 28) hx hb dX1_suits_9 (by decide) (fun c5 => ?_) (fun c5 => ?_)
  · have h := itp c5 h
    refine lv_iconst (v := 0) hx hb dX1_suits_28 (by decide) ?_
    exact hret _ _ _ dX1_suits_29 (by decide) (Option.some.inj h)
  · have h := itn c5 h
    refine lv_aload_n hx hb dX1_suits_12 rfl (lv_at hl 0 rfl) ?_
    refine lv_iload_n hx hb dX1_suits_13 rfl (lv_at hl 1 rfl) ?_
    refine lv_iload_n hx hb dX1_suits_14 rfl (lv_at hl 2 rfl) ?_
    obtain ⟨r6, hr7, h⟩ := bnd h
    refine ro_i (runV (As := [.int v1, .int v2]) (rest := []) cx hl.1 (ctX1_shape l g a_t t_told t_lines t_kinds t_acts t_cells v1 v2 r6 hr7) kmX1_shape kvX1_shape lm_X1_117 ⟨rfl, rfl⟩ ⟨Nat.le_of_ble_eq_true rfl, Nat.le_of_ble_eq_true rfl⟩ (roV (q0 := 0) (ci := 1) hG (hP.sub [0, 1] rfl) hP rfl rfl) rfl rfl (Nat.le_of_ble_eq_true rfl) dX1_suits_15 ⟨Nat.le_of_ble_eq_true rfl, Nat.le_of_ble_eq_true rfl⟩) ?_
    refine lv_iload_n hx hb dX1_suits_18 rfl (lv_at hl 3 rfl) ?_
    refine lv_iand hx hb dX1_suits_19 ?_
    refine lv_iload_n hx hb dX1_suits_20 rfl (lv_at hl 3 rfl) ?_
    refine lv_icmp_ne (tgt := 28) hx hb dX1_suits_21 (by decide) (fun c8 => ?_) (fun c8 => ?_)
    · have h := itn c8 h
      refine lv_iconst (v := 0) hx hb dX1_suits_28 (by decide) ?_
      exact hret _ _ _ dX1_suits_29 (by decide) (Option.some.inj h)
    · have h := itp c8 h
      refine lv_iconst (v := 1) hx hb dX1_suits_24 (by decide) ?_
      refine lv_goto (tgt := 29) hx hb dX1_suits_25 (by decide) ?_
      exact hret _ _ _ dX1_suits_29 (by decide) (Option.some.inj h)
-- X6_isThin
theorem dX6_isThin_0 : decode cX6_isThin 0 = .ok (.aload_n 0, 1) := by decide +kernel
theorem dX6_isThin_1 : decode cX6_isThin 1 = .ok (.invokevirtual 15, 3) := by decide +kernel
theorem dX6_isThin_4 : decode cX6_isThin 4 = .ok (.aload_n 0, 1) := by decide +kernel
theorem dX6_isThin_5 : decode cX6_isThin 5 = .ok (.invokevirtual 21, 3) := by decide +kernel
theorem dX6_isThin_8 : decode cX6_isThin 8 = .ok (.iload_n 1, 1) := by decide +kernel
theorem dX6_isThin_9 : decode cX6_isThin 9 = .ok (.invokestatic 24, 3) := by decide +kernel
theorem dX6_isThin_12 : decode cX6_isThin 12 = .ok (.istore_n 3, 1) := by decide +kernel
theorem dX6_isThin_13 : decode cX6_isThin 13 = .ok (.aload_n 0, 1) := by decide +kernel
theorem dX6_isThin_14 : decode cX6_isThin 14 = .ok (.iload_n 3, 1) := by decide +kernel
theorem dX6_isThin_15 : decode cX6_isThin 15 = .ok (.iload_n 1, 1) := by decide +kernel
theorem dX6_isThin_16 : decode cX6_isThin 16 = .ok (.invokestatic 30, 3) := by decide +kernel
theorem dX6_isThin_19 : decode cX6_isThin 19 = .ok (.iload_n 2, 1) := by decide +kernel
theorem dX6_isThin_20 : decode cX6_isThin 20 = .ok (.invokevirtual 36, 3) := by decide +kernel
theorem dX6_isThin_23 : decode cX6_isThin 23 = .ok (.ireturn, 1) := by decide +kernel
noncomputable def fX6_isThin  (p1_cells : Nat → Int32) (p1_rows : Nat → Int32) (p1_sizes : Nat → Int32) (p1_rooms : Nat → Int32) (p1_acts : Int32) (v1 : Int32) (v2 : Int32) : Option (Int32) := (fX1_row p1_rows p1_acts).bind fun r1 => (fX1_plies p1_sizes p1_acts).bind fun r3 => (fX3_chosen r1 r3 v1).bind fun r5 => (fX1_suits p1_cells p1_rooms p1_acts r5 (fJ6_bitCount_0f7a4 v1) v2).bind fun r7 => some r7
set_option maxHeartbeats 4000000 in
set_option maxRecDepth 100000 in
theorem ctX6_isThin (l : Launch) (g : GT) (a_p1 : Nat → Nat) (p1_told : Int32) (p1_lines : Int32) (p1_kinds : Int32) (p1_acts : Int32) (p1_cells : Nat → Int32) (p1_rows : Nat → Int32) (p1_sizes : Nat → Int32) (p1_rooms : Nat → Int32) (v1 : Int32) (v2 : Int32) (o : Int32) (h : fX6_isThin p1_cells p1_rows p1_sizes p1_rooms p1_acts v1 v2 = some o) : Met l yX6_isThin (Cond.code yX6_isThin cX6_isThin 4 (some .boolean) :: Tw) ⟨5, 0, 0, 122⟩ (va_Pc [.ref ((a_p1 0)), .int v1, .int v2] (roB g [((a_p1 0), .inr (1, [.ref (a_p1 1), .ref (a_p1 2), .ref (a_p1 3), .ref (a_p1 4), .ref (a_p1 5), .int p1_told, .int p1_lines, .int p1_kinds, .int p1_acts])), ((a_p1 2), .inl (g.2.2.1 0, 144, .inl p1_cells)), ((a_p1 3), .inl (g.2.2.1 0, 31, .inl p1_rows)), ((a_p1 4), .inl (g.2.2.1 0, 31, .inl p1_sizes)), ((a_p1 5), .inl (g.2.2.1 0, 31, .inl p1_rooms))])) (vp_Si (fun x => x = o ∧ (x = 0 ∨ x = 1))) 0 0 (fun _ => False) := by
  refine ro_metz (by decide) (Nat.le_of_ble_eq_true rfl) (lv0 := [(0, .ref ((a_p1 0))), (1, .int v1), (2, .int v2)]) rfl ?_
  intro p e s m args below meth c ls Q cx hret hG hP hl
  have hx := cx.1
  have hb := cx.2.1
  have hG0 := hG
  unfold fX6_isThin at h
  refine lv_aload_n hx hb dX6_isThin_0 rfl (lv_at hl 0 rfl) ?_
  obtain ⟨r1, hr2, h⟩ := bnd h
  refine ro_i (runVN (As := []) (rest := []) hG cx hl.1 (ctX1_row l g a_p1 p1_told p1_lines p1_kinds p1_acts p1_rows r1 hr2) kmX1_row kvX1_row nm_82 ⟨rfl, rfl⟩ ⟨Nat.le_of_ble_eq_true rfl, Nat.le_of_ble_eq_true rfl⟩ (roV (q0 := 0) (ci := 1) hG (hP.sub [0, 2] rfl) hP rfl rfl) rfl rfl (Nat.le_of_ble_eq_true rfl) dX6_isThin_1 ⟨Nat.le_of_ble_eq_true rfl, Nat.le_of_ble_eq_true rfl⟩) ?_
  refine lv_aload_n hx hb dX6_isThin_4 rfl (lv_at hl 0 rfl) ?_
  obtain ⟨r3, hr4, h⟩ := bnd h
  refine ro_i (runVN (As := []) (rest := [.int r1]) hG cx hl.1 (ctX1_plies l g a_p1 p1_told p1_lines p1_kinds p1_acts p1_sizes r3 hr4) kmX1_plies kvX1_plies nm_83 ⟨rfl, rfl⟩ ⟨Nat.le_of_ble_eq_true rfl, Nat.le_of_ble_eq_true rfl⟩ (roV (q0 := 0) (ci := 1) hG (hP.sub [0, 3] rfl) hP rfl rfl) rfl rfl (Nat.le_of_ble_eq_true rfl) dX6_isThin_5 ⟨Nat.le_of_ble_eq_true rfl, Nat.le_of_ble_eq_true rfl⟩) ?_
  refine lv_iload_n hx hb dX6_isThin_8 rfl (lv_at hl 1 rfl) ?_
  obtain ⟨r5, hr6, h⟩ := bnd h
  refine ro_i (runSN (As := [.int r1, .int r3, .int v1]) (rest := []) hG cx hl.1 (ctX3_chosen l g r1 r3 v1 r5 hr6) kmX3_chosen ksX3_chosen nm_84 ⟨rfl, rfl⟩ ⟨Nat.le_of_ble_eq_true rfl, Nat.le_of_ble_eq_true rfl⟩ (roS hG (hP.sub [] rfl)) rfl rfl (Nat.le_of_ble_eq_true rfl) dX6_isThin_9 ⟨Nat.le_of_ble_eq_true rfl, Nat.le_of_ble_eq_true rfl⟩) ?_
  refine lv_istore_n (lv' := [(3, .int r5), (0, .ref ((a_p1 0))), (1, .int v1), (2, .int v2)]) hx hb dX6_isThin_12 rfl hl (by decide) rfl (fun ls hl => ?_)
  refine lv_aload_n hx hb dX6_isThin_13 rfl (lv_at hl 1 rfl) ?_
  refine lv_iload_n hx hb dX6_isThin_14 rfl (lv_at hl 0 rfl) ?_
  refine lv_iload_n hx hb dX6_isThin_15 rfl (lv_at hl 2 rfl) ?_
  refine ro_i (runS (As := [.int v1]) (rest := [.int r5, .ref ((a_p1 0))]) cx hl.1 (ctJ6_bitCount_0f7a4 l g v1 (fJ6_bitCount_0f7a4 v1) rfl) kmJ6_bitCount_0f7a4 ksJ6_bitCount_0f7a4 lm_X6_30 ⟨rfl, rfl⟩ ⟨Nat.le_of_ble_eq_true rfl, Nat.le_of_ble_eq_true rfl⟩ (roS hG (hP.sub [] rfl)) rfl rfl (Nat.le_of_ble_eq_true rfl) dX6_isThin_16 ⟨Nat.le_of_ble_eq_true rfl, Nat.le_of_ble_eq_true rfl⟩) ?_
  refine lv_iload_n hx hb dX6_isThin_19 rfl (lv_at hl 3 rfl) ?_
  obtain ⟨r7, hr8, h⟩ := bnd h
  refine ro_z (runVN (As := [.int r5, .int (fJ6_bitCount_0f7a4 v1), .int v2]) (rest := []) hG cx hl.1 (ctX1_suits l g a_p1 p1_told p1_lines p1_kinds p1_acts p1_cells p1_rooms r5 (fJ6_bitCount_0f7a4 v1) v2 r7 hr8) kmX1_suits kvX1_suits nm_85 ⟨rfl, rfl⟩ ⟨Nat.le_of_ble_eq_true rfl, Nat.le_of_ble_eq_true rfl⟩ (roV (q0 := 0) (ci := 1) hG (hP.sub [0, 1, 4] rfl) hP rfl rfl) rfl rfl (Nat.le_of_ble_eq_true rfl) dX6_isThin_20 ⟨Nat.le_of_ble_eq_true rfl, Nat.le_of_ble_eq_true rfl⟩) (fun hz9 => ?_)
  exact hret _ _ _ dX6_isThin_23 hz9 (Option.some.inj h)
-- X6_steps
theorem dX6_steps_0 : decode cX6_steps 0 = .ok (.iload_n 1, 1) := by decide +kernel
theorem dX6_steps_1 : decode cX6_steps 1 = .ok (.ifCond .lt 12, 3) := by decide +kernel
theorem dX6_steps_4 : decode cX6_steps 4 = .ok (.iload_n 1, 1) := by decide +kernel
theorem dX6_steps_5 : decode cX6_steps 5 = .ok (.aload_n 0, 1) := by decide +kernel
theorem dX6_steps_6 : decode cX6_steps 6 = .ok (.getfield 9, 3) := by decide +kernel
theorem dX6_steps_9 : decode cX6_steps 9 = .ok (.arraylength, 1) := by decide +kernel
theorem dX6_steps_10 : decode cX6_steps 10 = .ok (.if_icmp .lt 7, 3) := by decide +kernel
theorem dX6_steps_13 : decode cX6_steps 13 = .ok (.iconst (-1), 1) := by decide +kernel
theorem dX6_steps_14 : decode cX6_steps 14 = .ok (.goto 9, 3) := by decide +kernel
theorem dX6_steps_17 : decode cX6_steps 17 = .ok (.aload_n 0, 1) := by decide +kernel
theorem dX6_steps_18 : decode cX6_steps 18 = .ok (.getfield 9, 3) := by decide +kernel
theorem dX6_steps_21 : decode cX6_steps 21 = .ok (.iload_n 1, 1) := by decide +kernel
theorem dX6_steps_22 : decode cX6_steps 22 = .ok (.iaload, 1) := by decide +kernel
theorem dX6_steps_23 : decode cX6_steps 23 = .ok (.ireturn, 1) := by decide +kernel
noncomputable def fX6_steps  (t_depths : Nat → Int32) (v1 : Int32) : Option (Int32) := (if v1 < 0 then some (-1) else (if v1 < 256 then chk 256 v1 (some (t_depths v1.toNatClampNeg)) else some (-1)))
set_option maxHeartbeats 4000000 in
set_option maxRecDepth 100000 in
theorem ctX6_steps (l : Launch) (g : GT) (a_t : Nat → Nat) (t_all : Int32) (t_stride : Int32) (t_depths : Nat → Int32) (v1 : Int32) (o : Int32) (h : fX6_steps t_depths v1 = some o) : Met l yX6_steps (Cond.code yX6_steps cX6_steps 2 (some .int) :: Tw) ⟨0, 0, 0, 0⟩ (va_Pc [.ref ((a_t 0)), .int v1] (roB g [((a_t 0), .inr (5, [.ref (a_t 1), .int t_all, .int t_stride])), ((a_t 1), .inl (g.2.2.1 0, 256, .inl t_depths))])) (vp_Si (fun x => x = o)) 0 0 (fun _ => False) := by
  refine ro_meti (by decide) (Nat.le_of_ble_eq_true rfl) (lv0 := [(0, .ref ((a_t 0))), (1, .int v1)]) rfl ?_
  intro p e s m args below meth c ls Q cx hret hG hP hl
  have hx := cx.1
  have hb := cx.2.1
  have hG0 := hG
  unfold fX6_steps at h
  refine lv_iload_n hx hb dX6_steps_0 rfl (lv_at hl 1 rfl) ?_
  refine lv_if_lt (tgt := 13) hx hb dX6_steps_1 (by decide) (fun c1 => ?_) (fun c1 => ?_)
  · have h := itp c1 h
    refine lv_iconst (v := -1) hx hb dX6_steps_13 (by decide) ?_
    refine lv_goto (tgt := 23) hx hb dX6_steps_14 (by decide) ?_
    exact hret _ _ _ dX6_steps_23 (Option.some.inj h)
  · have h := itn c1 h
    refine lv_iload_n hx hb dX6_steps_4 rfl (lv_at hl 1 rfl) ?_
    refine lv_aload_n hx hb dX6_steps_5 rfl (lv_at hl 0 rfl) ?_
    refine xa_get (C := RX6) (T := TX6) (N := 3) cx hG hP 0 rfl rfl uX6 0 (by decide) lf_X6_9 rfl dX6_steps_6 ?_
    refine xa_len cx hG hP 1 rfl 0 rfl (v := 256) rfl dX6_steps_9 ?_
    refine lv_icmp_lt (tgt := 17) hx hb dX6_steps_10 (by decide) (fun c2 => ?_) (fun c2 => ?_)
    · have h := itp c2 h
      refine lv_aload_n hx hb dX6_steps_17 rfl (lv_at hl 0 rfl) ?_
      refine xa_get (C := RX6) (T := TX6) (N := 3) cx hG hP 0 rfl rfl uX6 0 (by decide) lf_X6_9 rfl dX6_steps_18 ?_
      refine lv_iload_n hx hb dX6_steps_21 rfl (lv_at hl 1 rfl) ?_
      obtain ⟨hi3, h⟩ := chk_out h
      refine xa_iald cx hG hP 1 rfl hi3 rfl dX6_steps_22 ?_
      exact hret _ _ _ dX6_steps_23 (Option.some.inj h)
    · have h := itn c2 h
      refine lv_iconst (v := -1) hx hb dX6_steps_13 (by decide) ?_
      refine lv_goto (tgt := 23) hx hb dX6_steps_14 (by decide) ?_
      exact hret _ _ _ dX6_steps_23 (Option.some.inj h)
-- X6_leads
theorem dX6_leads_0 : decode cX6_leads 0 = .ok (.iload_n 1, 1) := by decide +kernel
theorem dX6_leads_1 : decode cX6_leads 1 = .ok (.iload_n 2, 1) := by decide +kernel
theorem dX6_leads_2 : decode cX6_leads 2 = .ok (.iand, 1) := by decide +kernel
theorem dX6_leads_3 : decode cX6_leads 3 = .ok (.iload_n 2, 1) := by decide +kernel
theorem dX6_leads_4 : decode cX6_leads 4 = .ok (.if_icmp .ne 32, 3) := by decide +kernel
theorem dX6_leads_7 : decode cX6_leads 7 = .ok (.aload_n 0, 1) := by decide +kernel
theorem dX6_leads_8 : decode cX6_leads 8 = .ok (.iload_n 1, 1) := by decide +kernel
theorem dX6_leads_9 : decode cX6_leads 9 = .ok (.invokevirtual 73, 3) := by decide +kernel
theorem dX6_leads_12 : decode cX6_leads 12 = .ok (.iconst (-1), 1) := by decide +kernel
theorem dX6_leads_13 : decode cX6_leads 13 = .ok (.if_icmp .eq 23, 3) := by decide +kernel
theorem dX6_leads_16 : decode cX6_leads 16 = .ok (.iload_n 1, 1) := by decide +kernel
theorem dX6_leads_17 : decode cX6_leads 17 = .ok (.invokestatic 30, 3) := by decide +kernel
theorem dX6_leads_20 : decode cX6_leads 20 = .ok (.iload_n 2, 1) := by decide +kernel
theorem dX6_leads_21 : decode cX6_leads 21 = .ok (.invokestatic 30, 3) := by decide +kernel
theorem dX6_leads_24 : decode cX6_leads 24 = .ok (.isub, 1) := by decide +kernel
theorem dX6_leads_25 : decode cX6_leads 25 = .ok (.aload_n 0, 1) := by decide +kernel
theorem dX6_leads_26 : decode cX6_leads 26 = .ok (.getfield 47, 3) := by decide +kernel
theorem dX6_leads_29 : decode cX6_leads 29 = .ok (.if_icmp .gt 7, 3) := by decide +kernel
theorem dX6_leads_32 : decode cX6_leads 32 = .ok (.iconst 1, 1) := by decide +kernel
theorem dX6_leads_33 : decode cX6_leads 33 = .ok (.goto 4, 3) := by decide +kernel
theorem dX6_leads_36 : decode cX6_leads 36 = .ok (.iconst 0, 1) := by decide +kernel
theorem dX6_leads_37 : decode cX6_leads 37 = .ok (.ireturn, 1) := by decide +kernel
noncomputable def fX6_leads  (t_depths : Nat → Int32) (t_stride : Int32) (v1 : Int32) (v2 : Int32) : Option (Int32) := (if (v1 &&& v2) = v2 then (fX6_steps t_depths v1).bind fun r2 => (if r2 = (-1) then some (0) else (if t_stride < ((fJ6_bitCount_0f7a4 v1) - (fJ6_bitCount_0f7a4 v2)) then some (0) else some (1))) else some (0))
set_option maxHeartbeats 4000000 in
set_option maxRecDepth 100000 in
theorem ctX6_leads (l : Launch) (g : GT) (a_t : Nat → Nat) (t_all : Int32) (t_stride : Int32) (t_depths : Nat → Int32) (v1 : Int32) (v2 : Int32) (o : Int32) (h : fX6_leads t_depths t_stride v1 v2 = some o) : Met l yX6_leads (Cond.code yX6_leads cX6_leads 3 (some .boolean) :: Tw) ⟨1, 0, 0, 21⟩ (va_Pc [.ref ((a_t 0)), .int v1, .int v2] (roB g [((a_t 0), .inr (5, [.ref (a_t 1), .int t_all, .int t_stride])), ((a_t 1), .inl (g.2.2.1 0, 256, .inl t_depths))])) (vp_Si (fun x => x = o ∧ (x = 0 ∨ x = 1))) 0 0 (fun _ => False) := by
  refine ro_metz (by decide) (Nat.le_of_ble_eq_true rfl) (lv0 := [(0, .ref ((a_t 0))), (1, .int v1), (2, .int v2)]) rfl ?_
  intro p e s m args below meth c ls Q cx hret hG hP hl
  have hx := cx.1
  have hb := cx.2.1
  have hG0 := hG
  unfold fX6_leads at h
  refine lv_iload_n hx hb dX6_leads_0 rfl (lv_at hl 1 rfl) ?_
  refine lv_iload_n hx hb dX6_leads_1 rfl (lv_at hl 2 rfl) ?_
  refine lv_iand hx hb dX6_leads_2 ?_
  refine lv_iload_n hx hb dX6_leads_3 rfl (lv_at hl 2 rfl) ?_
  refine lv_icmp_ne (tgt := 36) hx hb dX6_leads_4 (by decide) (fun c1 => ?_) (fun c1 => ?_)
  · have h := itn c1 h
    refine lv_iconst (v := 0) hx hb dX6_leads_36 (by decide) ?_
    exact hret _ _ _ dX6_leads_37 (by decide) (Option.some.inj h)
  · have h := itp c1 h
    refine lv_aload_n hx hb dX6_leads_7 rfl (lv_at hl 0 rfl) ?_
    refine lv_iload_n hx hb dX6_leads_8 rfl (lv_at hl 1 rfl) ?_
    obtain ⟨r2, hr3, h⟩ := bnd h
    refine ro_i (runV (As := [.int v1]) (rest := []) cx hl.1 (ctX6_steps l g a_t t_all t_stride t_depths v1 r2 hr3) kmX6_steps kvX6_steps lm_X6_73 ⟨rfl, rfl⟩ ⟨Nat.le_of_ble_eq_true rfl, Nat.le_of_ble_eq_true rfl⟩ (roV (q0 := 0) (ci := 5) hG (hP.sub [0, 1] rfl) hP rfl rfl) rfl rfl (Nat.le_of_ble_eq_true rfl) dX6_leads_9 ⟨Nat.le_of_ble_eq_true rfl, Nat.le_of_ble_eq_true rfl⟩) ?_
    refine lv_iconst (v := -1) hx hb dX6_leads_12 (by decide) ?_
    refine lv_icmp_eq (tgt := 36) hx hb dX6_leads_13 (by decide) (fun c4 => ?_) (fun c4 => ?_)
    · have h := itp c4 h
      refine lv_iconst (v := 0) hx hb dX6_leads_36 (by decide) ?_
      exact hret _ _ _ dX6_leads_37 (by decide) (Option.some.inj h)
    · have h := itn c4 h
      refine lv_iload_n hx hb dX6_leads_16 rfl (lv_at hl 1 rfl) ?_
      refine ro_i (runS (As := [.int v1]) (rest := []) cx hl.1 (ctJ6_bitCount_0f7a4 l g v1 (fJ6_bitCount_0f7a4 v1) rfl) kmJ6_bitCount_0f7a4 ksJ6_bitCount_0f7a4 lm_X6_30 ⟨rfl, rfl⟩ ⟨Nat.le_of_ble_eq_true rfl, Nat.le_of_ble_eq_true rfl⟩ (roS hG (hP.sub [] rfl)) rfl rfl (Nat.le_of_ble_eq_true rfl) dX6_leads_17 ⟨Nat.le_of_ble_eq_true rfl, Nat.le_of_ble_eq_true rfl⟩) ?_
      refine lv_iload_n hx hb dX6_leads_20 rfl (lv_at hl 2 rfl) ?_
      refine ro_i (runS (As := [.int v2]) (rest := [.int (fJ6_bitCount_0f7a4 v1)]) cx hl.1 (ctJ6_bitCount_0f7a4 l g v2 (fJ6_bitCount_0f7a4 v2) rfl) kmJ6_bitCount_0f7a4 ksJ6_bitCount_0f7a4 lm_X6_30 ⟨rfl, rfl⟩ ⟨Nat.le_of_ble_eq_true rfl, Nat.le_of_ble_eq_true rfl⟩ (roS hG (hP.sub [] rfl)) rfl rfl (Nat.le_of_ble_eq_true rfl) dX6_leads_21 ⟨Nat.le_of_ble_eq_true rfl, Nat.le_of_ble_eq_true rfl⟩) ?_
      refine lv_isub hx hb dX6_leads_24 ?_
      refine lv_aload_n hx hb dX6_leads_25 rfl (lv_at hl 0 rfl) ?_
      refine xa_get (C := RX6) (T := TX6) (N := 3) cx hG hP 0 rfl rfl uX6 2 (by decide) lf_X6_47 rfl dX6_leads_26 ?_
      refine lv_icmp_gt (tgt := 36) hx hb dX6_leads_29 (by decide) (fun c5 => ?_) (fun c5 => ?_)
      · have h := itp c5 h
        refine lv_iconst (v := 0) hx hb dX6_leads_36 (by decide) ?_
        exact hret _ _ _ dX6_leads_37 (by decide) (Option.some.inj h)
      · have h := itn c5 h
        refine lv_iconst (v := 1) hx hb dX6_leads_32 (by decide) ?_
        refine lv_goto (tgt := 37) hx hb dX6_leads_33 (by decide) ?_
        exact hret _ _ _ dX6_leads_37 (by decide) (Option.some.inj h)
-- X6_leastDepthAbove
theorem dX6_leastDepthAbove_0 : decode cX6_leastDepthAbove 0 = .ok (.iconst (-1), 1) := by decide +kernel
theorem dX6_leastDepthAbove_1 : decode cX6_leastDepthAbove 1 = .ok (.istore_n 2, 1) := by decide +kernel
theorem dX6_leastDepthAbove_2 : decode cX6_leastDepthAbove 2 = .ok (.iload_n 1, 1) := by decide +kernel
theorem dX6_leastDepthAbove_3 : decode cX6_leastDepthAbove 3 = .ok (.iconst 1, 1) := by decide +kernel
theorem dX6_leastDepthAbove_4 : decode cX6_leastDepthAbove 4 = .ok (.iadd, 1) := by decide +kernel
theorem dX6_leastDepthAbove_5 : decode cX6_leastDepthAbove 5 = .ok (.istore_n 3, 1) := by decide +kernel
theorem dX6_leastDepthAbove_6 : decode cX6_leastDepthAbove 6 = .ok (.iload_n 3, 1) := by decide +kernel
theorem dX6_leastDepthAbove_7 : decode cX6_leastDepthAbove 7 = .ok (.aload_n 0, 1) := by decide +kernel
theorem dX6_leastDepthAbove_8 : decode cX6_leastDepthAbove 8 = .ok (.getfield 57, 3) := by decide +kernel
theorem dX6_leastDepthAbove_11 : decode cX6_leastDepthAbove 11 = .ok (.if_icmp .gt 40, 3) := by decide +kernel
theorem dX6_leastDepthAbove_14 : decode cX6_leastDepthAbove 14 = .ok (.aload_n 0, 1) := by decide +kernel
theorem dX6_leastDepthAbove_15 : decode cX6_leastDepthAbove 15 = .ok (.iload_n 3, 1) := by decide +kernel
theorem dX6_leastDepthAbove_16 : decode cX6_leastDepthAbove 16 = .ok (.iload_n 1, 1) := by decide +kernel
theorem dX6_leastDepthAbove_17 : decode cX6_leastDepthAbove 17 = .ok (.invokevirtual 69, 3) := by decide +kernel
theorem dX6_leastDepthAbove_20 : decode cX6_leastDepthAbove 20 = .ok (.ifCond .eq 25, 3) := by decide +kernel
theorem dX6_leastDepthAbove_23 : decode cX6_leastDepthAbove 23 = .ok (.iload_n 2, 1) := by decide +kernel
theorem dX6_leastDepthAbove_24 : decode cX6_leastDepthAbove 24 = .ok (.iconst (-1), 1) := by decide +kernel
theorem dX6_leastDepthAbove_25 : decode cX6_leastDepthAbove 25 = .ok (.if_icmp .eq 13, 3) := by decide +kernel
theorem dX6_leastDepthAbove_28 : decode cX6_leastDepthAbove 28 = .ok (.aload_n 0, 1) := by decide +kernel
theorem dX6_leastDepthAbove_29 : decode cX6_leastDepthAbove 29 = .ok (.getfield 9, 3) := by decide +kernel
theorem dX6_leastDepthAbove_32 : decode cX6_leastDepthAbove 32 = .ok (.iload_n 3, 1) := by decide +kernel
theorem dX6_leastDepthAbove_33 : decode cX6_leastDepthAbove 33 = .ok (.iaload, 1) := by decide +kernel
theorem dX6_leastDepthAbove_34 : decode cX6_leastDepthAbove 34 = .ok (.iload_n 2, 1) := by decide +kernel
theorem dX6_leastDepthAbove_35 : decode cX6_leastDepthAbove 35 = .ok (.if_icmp .ge 10, 3) := by decide +kernel
theorem dX6_leastDepthAbove_38 : decode cX6_leastDepthAbove 38 = .ok (.aload_n 0, 1) := by decide +kernel
theorem dX6_leastDepthAbove_39 : decode cX6_leastDepthAbove 39 = .ok (.getfield 9, 3) := by decide +kernel
theorem dX6_leastDepthAbove_42 : decode cX6_leastDepthAbove 42 = .ok (.iload_n 3, 1) := by decide +kernel
theorem dX6_leastDepthAbove_43 : decode cX6_leastDepthAbove 43 = .ok (.iaload, 1) := by decide +kernel
theorem dX6_leastDepthAbove_44 : decode cX6_leastDepthAbove 44 = .ok (.istore_n 2, 1) := by decide +kernel
theorem dX6_leastDepthAbove_45 : decode cX6_leastDepthAbove 45 = .ok (.iinc 3 1, 3) := by decide +kernel
theorem dX6_leastDepthAbove_48 : decode cX6_leastDepthAbove 48 = .ok (.goto (-42), 3) := by decide +kernel
theorem dX6_leastDepthAbove_51 : decode cX6_leastDepthAbove 51 = .ok (.iload_n 2, 1) := by decide +kernel
theorem dX6_leastDepthAbove_52 : decode cX6_leastDepthAbove 52 = .ok (.ireturn, 1) := by decide +kernel
noncomputable def fX6_leastDepthAbove_45 (k6 : (Nat → Int32) → Int32 → Int32 → Int32 → Int32 → Int32 → Option (Int32)) (t_depths : Nat → Int32) (t_all : Int32) (t_stride : Int32) (v1 : Int32) (v2 : Int32) (v3 : Int32) : Option (Int32) := k6 t_depths t_all t_stride v1 v2 (v3 + 1)
noncomputable def fX6_leastDepthAbove_38 (k6 : (Nat → Int32) → Int32 → Int32 → Int32 → Int32 → Int32 → Option (Int32)) (t_depths : Nat → Int32) (t_all : Int32) (t_stride : Int32) (v1 : Int32) (v3 : Int32) : Option (Int32) := chk 256 v3 (fX6_leastDepthAbove_45 k6 t_depths t_all t_stride v1 (t_depths v3.toNatClampNeg) v3)
noncomputable def fX6_leastDepthAbove_6  : Nat → (Nat → Int32) → Int32 → Int32 → Int32 → Int32 → Int32 → Option (Int32)
  | 0, _, _, _, _, _, _ => none
  | n + 1, t_depths, t_all, t_stride, v1, v2, v3 => (if t_all < v3 then some v2 else (fX6_leads t_depths t_stride v3 v1).bind fun r2 => (if r2 = 0 then fX6_leastDepthAbove_45 (fX6_leastDepthAbove_6 n) t_depths t_all t_stride v1 v2 v3 else (if v2 = (-1) then fX6_leastDepthAbove_38 (fX6_leastDepthAbove_6 n) t_depths t_all t_stride v1 v3 else chk 256 v3 ((if v2 ≤ (t_depths v3.toNatClampNeg) then fX6_leastDepthAbove_45 (fX6_leastDepthAbove_6 n) t_depths t_all t_stride v1 v2 v3 else fX6_leastDepthAbove_38 (fX6_leastDepthAbove_6 n) t_depths t_all t_stride v1 v3)))))
theorem fX6_leastDepthAbove_6_z  (t_depths : Nat → Int32) (t_all : Int32) (t_stride : Int32) (v1 : Int32) (v2 : Int32) (v3 : Int32) : fX6_leastDepthAbove_6  0 t_depths t_all t_stride v1 v2 v3 = none := rfl
theorem fX6_leastDepthAbove_6_s  (n : Nat) (t_depths : Nat → Int32) (t_all : Int32) (t_stride : Int32) (v1 : Int32) (v2 : Int32) (v3 : Int32) : fX6_leastDepthAbove_6  (n + 1) t_depths t_all t_stride v1 v2 v3 = (if t_all < v3 then some v2 else (fX6_leads t_depths t_stride v3 v1).bind fun r2 => (if r2 = 0 then fX6_leastDepthAbove_45 (fX6_leastDepthAbove_6 n) t_depths t_all t_stride v1 v2 v3 else (if v2 = (-1) then fX6_leastDepthAbove_38 (fX6_leastDepthAbove_6 n) t_depths t_all t_stride v1 v3 else chk 256 v3 ((if v2 ≤ (t_depths v3.toNatClampNeg) then fX6_leastDepthAbove_45 (fX6_leastDepthAbove_6 n) t_depths t_all t_stride v1 v2 v3 else fX6_leastDepthAbove_38 (fX6_leastDepthAbove_6 n) t_depths t_all t_stride v1 v3))))) := rfl
noncomputable def fX6_leastDepthAbove  (t_depths : Nat → Int32) (t_all : Int32) (t_stride : Int32) (v1 : Int32) : Option (Int32) := fX6_leastDepthAbove_6 FU t_depths t_all t_stride v1 (-1) (v1 + 1)
set_option maxHeartbeats 4000000 in
set_option maxRecDepth 100000 in
theorem ctX6_leastDepthAbove (l : Launch) (g : GT) (a_t : Nat → Nat) (t_all : Int32) (t_stride : Int32) (t_depths : Nat → Int32) (v1 : Int32) (o : Int32) (h : fX6_leastDepthAbove t_depths t_all t_stride v1 = some o) : Met l yX6_leastDepthAbove (Cond.code yX6_leastDepthAbove cX6_leastDepthAbove 4 (some .int) :: Tw) ⟨2, 0, 0, 43⟩ (va_Pc [.ref ((a_t 0)), .int v1] (roB g [((a_t 0), .inr (5, [.ref (a_t 1), .int t_all, .int t_stride])), ((a_t 1), .inl (g.2.2.1 0, 256, .inl t_depths))])) (vp_Si (fun x => x = o)) 0 0 (fun _ => False) := by
  refine ro_meti (by decide) (Nat.le_of_ble_eq_true rfl) (lv0 := [(0, .ref ((a_t 0))), (1, .int v1)]) rfl ?_
  intro p e s m args below meth c ls Q cx hret hG hP hl
  have hx := cx.1
  have hb := cx.2.1
  have hG0 := hG
  have w45 : ∀ (k6 : (Nat → Int32) → Int32 → Int32 → Int32 → Int32 → Int32 → Option (Int32)) (hk6 : ∀ (v1 : Int32) (v2 : Int32) (v3 : Int32) (ls : Array Slot), lv_has ls 4 [(0, .ref ((a_t 0))), (1, .int v1), (2, .int v2), (3, .int v3)] → k6 t_depths t_all t_stride v1 v2 v3 = some o → W p l e ⟨2, 0, 0, 43⟩ s m args below meth c s.heap [] 0 0 Q (F0 m 6 ls [])) (v1 : Int32) (v2 : Int32) (v3 : Int32) (ls : Array Slot), lv_has ls 4 [(0, .ref ((a_t 0))), (1, .int v1), (2, .int v2), (3, .int v3)] → fX6_leastDepthAbove_45 k6 t_depths t_all t_stride v1 v2 v3 = some o → W p l e ⟨2, 0, 0, 43⟩ s m args below meth c s.heap [] 0 0 Q (F0 m 45 ls []) := by
    intro k6 hk6 v1 v2 v3 ls hl h
    unfold fX6_leastDepthAbove_45 at h
    refine lv_iinc (v := v3 + 1) (lv' := [(3, .int (v3 + 1)), (0, .ref ((a_t 0))), (1, .int v1), (2, .int v2)]) hx hb dX6_leastDepthAbove_45 hl (k := 3) rfl rfl (by decide) rfl (fun ls hl => ?_)
    refine lv_goto (tgt := 6) hx hb dX6_leastDepthAbove_48 (by decide) ?_
    exact hk6 v1 v2 (v3 + 1) _ (lv_sub hl [1, 2, 3, 0] rfl) h
  have w38 : ∀ (k6 : (Nat → Int32) → Int32 → Int32 → Int32 → Int32 → Int32 → Option (Int32)) (hk6 : ∀ (v1 : Int32) (v2 : Int32) (v3 : Int32) (ls : Array Slot), lv_has ls 4 [(0, .ref ((a_t 0))), (1, .int v1), (2, .int v2), (3, .int v3)] → k6 t_depths t_all t_stride v1 v2 v3 = some o → W p l e ⟨2, 0, 0, 43⟩ s m args below meth c s.heap [] 0 0 Q (F0 m 6 ls [])) (v1 : Int32) (v3 : Int32) (ls : Array Slot), lv_has ls 4 [(0, .ref ((a_t 0))), (1, .int v1), (3, .int v3)] → fX6_leastDepthAbove_38 k6 t_depths t_all t_stride v1 v3 = some o → W p l e ⟨2, 0, 0, 43⟩ s m args below meth c s.heap [] 0 0 Q (F0 m 38 ls []) := by
    intro k6 hk6 v1 v3 ls hl h
    unfold fX6_leastDepthAbove_38 at h
    refine lv_aload_n hx hb dX6_leastDepthAbove_38 rfl (lv_at hl 0 rfl) ?_
    refine xa_get (C := RX6) (T := TX6) (N := 3) cx hG hP 0 rfl rfl uX6 0 (by decide) lf_X6_9 rfl dX6_leastDepthAbove_39 ?_
    refine lv_iload_n hx hb dX6_leastDepthAbove_42 rfl (lv_at hl 2 rfl) ?_
    obtain ⟨hi9, h⟩ := chk_out h
    refine xa_iald cx hG hP 1 rfl hi9 rfl dX6_leastDepthAbove_43 ?_
    refine lv_istore_n (lv' := [(2, .int (t_depths v3.toNatClampNeg)), (0, .ref ((a_t 0))), (1, .int v1), (3, .int v3)]) hx hb dX6_leastDepthAbove_44 rfl hl (by decide) rfl (fun ls hl => ?_)
    exact w45 _ hk6 v1 (t_depths v3.toNatClampNeg) v3 _ (lv_sub hl [1, 2, 0, 3] rfl) h
  have w6 : ∀ (n : Nat) (v1 : Int32) (v2 : Int32) (v3 : Int32) (ls : Array Slot), lv_has ls 4 [(0, .ref ((a_t 0))), (1, .int v1), (2, .int v2), (3, .int v3)] → fX6_leastDepthAbove_6  n t_depths t_all t_stride v1 v2 v3 = some o → W p l e ⟨2, 0, 0, 43⟩ s m args below meth c s.heap [] 0 0 Q (F0 m 6 ls []) := by
    intro n
    induction n with
    | zero => intro v1 v2 v3 ls hl h; cases (fX6_leastDepthAbove_6_z  t_depths t_all t_stride v1 v2 v3).symm.trans h
    | succ n ih =>
    intro v1 v2 v3 ls hl h
    have h := (fX6_leastDepthAbove_6_s  n t_depths t_all t_stride v1 v2 v3).symm.trans h
    refine lv_iload_n hx hb dX6_leastDepthAbove_6 rfl (lv_at hl 3 rfl) ?_
    refine lv_aload_n hx hb dX6_leastDepthAbove_7 rfl (lv_at hl 0 rfl) ?_
    refine xa_get (C := RX6) (T := TX6) (N := 3) cx hG hP 0 rfl rfl uX6 1 (by decide) lf_X6_57 rfl dX6_leastDepthAbove_8 ?_
    refine lv_icmp_gt (tgt := 51) hx hb dX6_leastDepthAbove_11 (by decide) (fun c1 => ?_) (fun c1 => ?_)
    · have h := itp c1 h
      refine lv_iload_n hx hb dX6_leastDepthAbove_51 rfl (lv_at hl 2 rfl) ?_
      exact hret _ _ _ dX6_leastDepthAbove_52 (Option.some.inj h)
    · have h := itn c1 h
      refine lv_aload_n hx hb dX6_leastDepthAbove_14 rfl (lv_at hl 0 rfl) ?_
      refine lv_iload_n hx hb dX6_leastDepthAbove_15 rfl (lv_at hl 3 rfl) ?_
      refine lv_iload_n hx hb dX6_leastDepthAbove_16 rfl (lv_at hl 1 rfl) ?_
      obtain ⟨r2, hr3, h⟩ := bnd h
      refine ro_z (runV (As := [.int v3, .int v1]) (rest := []) cx hl.1 (ctX6_leads l g a_t t_all t_stride t_depths v3 v1 r2 hr3) kmX6_leads kvX6_leads lm_X6_69 ⟨rfl, rfl⟩ ⟨Nat.le_of_ble_eq_true rfl, Nat.le_of_ble_eq_true rfl⟩ (roV (q0 := 0) (ci := 5) hG (hP.sub [0, 1] rfl) hP rfl rfl) rfl rfl (Nat.le_of_ble_eq_true rfl) dX6_leastDepthAbove_17 ⟨Nat.le_of_ble_eq_true rfl, Nat.le_of_ble_eq_true rfl⟩) (fun hz4 => ?_)
      refine lv_if_eq (tgt := 45) hx hb dX6_leastDepthAbove_20 (by decide) (fun c5 => ?_) (fun c5 => ?_)
      · have h := itp c5 h
        exact w45 _ ih v1 v2 v3 _ (lv_sub hl [0, 1, 2, 3] rfl) h
      · have h := itn c5 h
        refine lv_iload_n hx hb dX6_leastDepthAbove_23 rfl (lv_at hl 2 rfl) ?_
        refine lv_iconst (v := -1) hx hb dX6_leastDepthAbove_24 (by decide) ?_
        refine lv_icmp_eq (tgt := 38) hx hb dX6_leastDepthAbove_25 (by decide) (fun c6 => ?_) (fun c6 => ?_)
        · have h := itp c6 h
          exact w38 _ ih v1 v3 _ (lv_sub hl [0, 1, 3] rfl) h
        · have h := itn c6 h
          refine lv_aload_n hx hb dX6_leastDepthAbove_28 rfl (lv_at hl 0 rfl) ?_
          refine xa_get (C := RX6) (T := TX6) (N := 3) cx hG hP 0 rfl rfl uX6 0 (by decide) lf_X6_9 rfl dX6_leastDepthAbove_29 ?_
          refine lv_iload_n hx hb dX6_leastDepthAbove_32 rfl (lv_at hl 3 rfl) ?_
          obtain ⟨hi7, h⟩ := chk_out h
          refine xa_iald cx hG hP 1 rfl hi7 rfl dX6_leastDepthAbove_33 ?_
          refine lv_iload_n hx hb dX6_leastDepthAbove_34 rfl (lv_at hl 2 rfl) ?_
          refine lv_icmp_ge (tgt := 45) hx hb dX6_leastDepthAbove_35 (by decide) (fun c8 => ?_) (fun c8 => ?_)
          · have h := itp c8 h
            exact w45 _ ih v1 v2 v3 _ (lv_sub hl [0, 1, 2, 3] rfl) h
          · have h := itn c8 h
            exact w38 _ ih v1 v3 _ (lv_sub hl [0, 1, 3] rfl) h
  unfold fX6_leastDepthAbove at h
  refine lv_iconst (v := -1) hx hb dX6_leastDepthAbove_0 (by decide) ?_
  refine lv_istore_n (lv' := [(2, .int (-1)), (0, .ref ((a_t 0))), (1, .int v1)]) hx hb dX6_leastDepthAbove_1 rfl hl (by decide) rfl (fun ls hl => ?_)
  refine lv_iload_n hx hb dX6_leastDepthAbove_2 rfl (lv_at hl 2 rfl) ?_
  refine lv_iconst (v := 1) hx hb dX6_leastDepthAbove_3 (by decide) ?_
  refine lv_iadd hx hb dX6_leastDepthAbove_4 ?_
  refine lv_istore_n (lv' := [(3, .int (v1 + 1)), (2, .int (-1)), (0, .ref ((a_t 0))), (1, .int v1)]) hx hb dX6_leastDepthAbove_5 rfl hl (by decide) rfl (fun ls hl => ?_)
  exact w6 FU v1 (-1) (v1 + 1) _ (lv_sub hl [2, 3, 1, 0] rfl) h
-- X6_explore
theorem dX6_explore_0 : decode cX6_explore 0 = .ok (.aload_n 0, 1) := by decide +kernel
theorem dX6_explore_1 : decode cX6_explore 1 = .ok (.iload_n 3, 1) := by decide +kernel
theorem dX6_explore_2 : decode cX6_explore 2 = .ok (.putfield 47, 3) := by decide +kernel
theorem dX6_explore_5 : decode cX6_explore 5 = .ok (.aload_n 0, 1) := by decide +kernel
theorem dX6_explore_6 : decode cX6_explore 6 = .ok (.aload_n 1, 1) := by decide +kernel
theorem dX6_explore_7 : decode cX6_explore 7 = .ok (.invokevirtual 40, 3) := by decide +kernel
theorem dX6_explore_10 : decode cX6_explore 10 = .ok (.aload_n 0, 1) := by decide +kernel
theorem dX6_explore_11 : decode cX6_explore 11 = .ok (.getfield 9, 3) := by decide +kernel
theorem dX6_explore_14 : decode cX6_explore 14 = .ok (.arraylength, 1) := by decide +kernel
theorem dX6_explore_15 : decode cX6_explore 15 = .ok (.iconst 1, 1) := by decide +kernel
theorem dX6_explore_16 : decode cX6_explore 16 = .ok (.isub, 1) := by decide +kernel
theorem dX6_explore_17 : decode cX6_explore 17 = .ok (.invokestatic 51, 3) := by decide +kernel
theorem dX6_explore_20 : decode cX6_explore 20 = .ok (.putfield 57, 3) := by decide +kernel
theorem dX6_explore_23 : decode cX6_explore 23 = .ok (.aload_n 0, 1) := by decide +kernel
theorem dX6_explore_24 : decode cX6_explore 24 = .ok (.getfield 9, 3) := by decide +kernel
theorem dX6_explore_27 : decode cX6_explore 27 = .ok (.iconst (-1), 1) := by decide +kernel
theorem dX6_explore_28 : decode cX6_explore 28 = .ok (.invokestatic 60, 3) := by decide +kernel
theorem dX6_explore_31 : decode cX6_explore 31 = .ok (.aload_n 1, 1) := by decide +kernel
theorem dX6_explore_32 : decode cX6_explore 32 = .ok (.aload_n 0, 1) := by decide +kernel
theorem dX6_explore_33 : decode cX6_explore 33 = .ok (.getfield 57, 3) := by decide +kernel
theorem dX6_explore_36 : decode cX6_explore 36 = .ok (.iload_n 2, 1) := by decide +kernel
theorem dX6_explore_37 : decode cX6_explore 37 = .ok (.invokestatic 43, 3) := by decide +kernel
theorem dX6_explore_40 : decode cX6_explore 40 = .ok (.ifCond .ne 4, 3) := by decide +kernel
theorem dX6_explore_43 : decode cX6_explore 43 = .ok (.return_, 1) := by decide +kernel
theorem dX6_explore_44 : decode cX6_explore 44 = .ok (.aload_n 0, 1) := by decide +kernel
theorem dX6_explore_45 : decode cX6_explore 45 = .ok (.getfield 9, 3) := by decide +kernel
theorem dX6_explore_48 : decode cX6_explore 48 = .ok (.aload_n 0, 1) := by decide +kernel
theorem dX6_explore_49 : decode cX6_explore 49 = .ok (.getfield 57, 3) := by decide +kernel
theorem dX6_explore_52 : decode cX6_explore 52 = .ok (.iconst 0, 1) := by decide +kernel
theorem dX6_explore_53 : decode cX6_explore 53 = .ok (.iastore, 1) := by decide +kernel
theorem dX6_explore_54 : decode cX6_explore 54 = .ok (.aload_n 0, 1) := by decide +kernel
theorem dX6_explore_55 : decode cX6_explore 55 = .ok (.getfield 57, 3) := by decide +kernel
theorem dX6_explore_58 : decode cX6_explore 58 = .ok (.iconst 1, 1) := by decide +kernel
theorem dX6_explore_59 : decode cX6_explore 59 = .ok (.isub, 1) := by decide +kernel
theorem dX6_explore_60 : decode cX6_explore 60 = .ok (.istore 4, 2) := by decide +kernel
theorem dX6_explore_62 : decode cX6_explore 62 = .ok (.iload 4, 2) := by decide +kernel
theorem dX6_explore_64 : decode cX6_explore 64 = .ok (.iconst 1, 1) := by decide +kernel
theorem dX6_explore_65 : decode cX6_explore 65 = .ok (.if_icmp .lt 44, 3) := by decide +kernel
theorem dX6_explore_68 : decode cX6_explore 68 = .ok (.aload_n 0, 1) := by decide +kernel
theorem dX6_explore_69 : decode cX6_explore 69 = .ok (.iload 4, 2) := by decide +kernel
theorem dX6_explore_71 : decode cX6_explore 71 = .ok (.invokevirtual 66, 3) := by decide +kernel
theorem dX6_explore_74 : decode cX6_explore 74 = .ok (.istore 5, 2) := by decide +kernel
theorem dX6_explore_76 : decode cX6_explore 76 = .ok (.iload 5, 2) := by decide +kernel
theorem dX6_explore_78 : decode cX6_explore 78 = .ok (.iconst (-1), 1) := by decide +kernel
theorem dX6_explore_79 : decode cX6_explore 79 = .ok (.if_icmp .eq 24, 3) := by decide +kernel
theorem dX6_explore_82 : decode cX6_explore 82 = .ok (.aload_n 1, 1) := by decide +kernel
theorem dX6_explore_83 : decode cX6_explore 83 = .ok (.iload 4, 2) := by decide +kernel
theorem dX6_explore_85 : decode cX6_explore 85 = .ok (.iload_n 2, 1) := by decide +kernel
theorem dX6_explore_86 : decode cX6_explore 86 = .ok (.invokestatic 43, 3) := by decide +kernel
theorem dX6_explore_89 : decode cX6_explore 89 = .ok (.ifCond .eq 14, 3) := by decide +kernel
theorem dX6_explore_92 : decode cX6_explore 92 = .ok (.aload_n 0, 1) := by decide +kernel
theorem dX6_explore_93 : decode cX6_explore 93 = .ok (.getfield 9, 3) := by decide +kernel
theorem dX6_explore_96 : decode cX6_explore 96 = .ok (.iload 4, 2) := by decide +kernel
theorem dX6_explore_98 : decode cX6_explore 98 = .ok (.iload 5, 2) := by decide +kernel
theorem dX6_explore_100 : decode cX6_explore 100 = .ok (.iconst 1, 1) := by decide +kernel
theorem dX6_explore_101 : decode cX6_explore 101 = .ok (.iadd, 1) := by decide +kernel
theorem dX6_explore_102 : decode cX6_explore 102 = .ok (.iastore, 1) := by decide +kernel
theorem dX6_explore_103 : decode cX6_explore 103 = .ok (.iinc 4 (-1), 3) := by decide +kernel
theorem dX6_explore_106 : decode cX6_explore 106 = .ok (.goto (-44), 3) := by decide +kernel
theorem dX6_explore_109 : decode cX6_explore 109 = .ok (.return_, 1) := by decide +kernel
noncomputable def fX6_explore_103 (k62 : (Nat → Int32) → Int32 → Int32 → (Nat → Int32) → (Nat → Int32) → (Nat → Int32) → (Nat → Int32) → Int32 → Int32 → Int32 → Option ((Nat → Int32) × Int32 × Int32)) (t_depths : Nat → Int32) (t_all : Int32) (t_stride : Int32) (p1_cells : Nat → Int32) (p1_rows : Nat → Int32) (p1_sizes : Nat → Int32) (p1_rooms : Nat → Int32) (p1_acts : Int32) (v2 : Int32) (v4 : Int32) : Option ((Nat → Int32) × Int32 × Int32) := k62 t_depths t_all t_stride p1_cells p1_rows p1_sizes p1_rooms p1_acts v2 (v4 + (-1))
noncomputable def fX6_explore_62  : Nat → (Nat → Int32) → Int32 → Int32 → (Nat → Int32) → (Nat → Int32) → (Nat → Int32) → (Nat → Int32) → Int32 → Int32 → Int32 → Option ((Nat → Int32) × Int32 × Int32)
  | 0, _, _, _, _, _, _, _, _, _, _ => none
  | n + 1, t_depths, t_all, t_stride, p1_cells, p1_rows, p1_sizes, p1_rooms, p1_acts, v2, v4 => (if v4 < 1 then some (t_depths, t_all, t_stride) else (fX6_leastDepthAbove t_depths t_all t_stride v4).bind fun r11 => (if r11 = (-1) then fX6_explore_103 (fX6_explore_62 n) t_depths t_all t_stride p1_cells p1_rows p1_sizes p1_rooms p1_acts v2 v4 else (fX6_isThin p1_cells p1_rows p1_sizes p1_rooms p1_acts v4 v2).bind fun r14 => (if r14 = 0 then fX6_explore_103 (fX6_explore_62 n) t_depths t_all t_stride p1_cells p1_rows p1_sizes p1_rooms p1_acts v2 v4 else chk 256 v4 (fX6_explore_103 (fX6_explore_62 n) (upd t_depths v4.toNatClampNeg (r11 + 1)) t_all t_stride p1_cells p1_rows p1_sizes p1_rooms p1_acts v2 v4))))
theorem fX6_explore_62_z  (t_depths : Nat → Int32) (t_all : Int32) (t_stride : Int32) (p1_cells : Nat → Int32) (p1_rows : Nat → Int32) (p1_sizes : Nat → Int32) (p1_rooms : Nat → Int32) (p1_acts : Int32) (v2 : Int32) (v4 : Int32) : fX6_explore_62  0 t_depths t_all t_stride p1_cells p1_rows p1_sizes p1_rooms p1_acts v2 v4 = none := rfl
theorem fX6_explore_62_s  (n : Nat) (t_depths : Nat → Int32) (t_all : Int32) (t_stride : Int32) (p1_cells : Nat → Int32) (p1_rows : Nat → Int32) (p1_sizes : Nat → Int32) (p1_rooms : Nat → Int32) (p1_acts : Int32) (v2 : Int32) (v4 : Int32) : fX6_explore_62  (n + 1) t_depths t_all t_stride p1_cells p1_rows p1_sizes p1_rooms p1_acts v2 v4 = (if v4 < 1 then some (t_depths, t_all, t_stride) else (fX6_leastDepthAbove t_depths t_all t_stride v4).bind fun r11 => (if r11 = (-1) then fX6_explore_103 (fX6_explore_62 n) t_depths t_all t_stride p1_cells p1_rows p1_sizes p1_rooms p1_acts v2 v4 else (fX6_isThin p1_cells p1_rows p1_sizes p1_rooms p1_acts v4 v2).bind fun r14 => (if r14 = 0 then fX6_explore_103 (fX6_explore_62 n) t_depths t_all t_stride p1_cells p1_rows p1_sizes p1_rooms p1_acts v2 v4 else chk 256 v4 (fX6_explore_103 (fX6_explore_62 n) (upd t_depths v4.toNatClampNeg (r11 + 1)) t_all t_stride p1_cells p1_rows p1_sizes p1_rooms p1_acts v2 v4)))) := rfl
noncomputable def fX6_explore  (t_depths : Nat → Int32) (t_all : Int32) (t_stride : Int32) (p1_cells : Nat → Int32) (p1_rows : Nat → Int32) (p1_sizes : Nat → Int32) (p1_rooms : Nat → Int32) (p1_acts : Int32) (v2 : Int32) (v3 : Int32) : Option ((Nat → Int32) × Int32 × Int32) := (fX1_allPlies p1_sizes p1_acts).bind fun r1 => (fJ7_fill_53178 256 t_depths (-1)).bind fun w4 => (fX6_isThin p1_cells p1_rows p1_sizes p1_rooms p1_acts (imin r1 (256 - 1)) v2).bind fun r5 => (if r5 = 0 then some (w4, imin r1 (256 - 1), v3) else chk 256 (imin r1 (256 - 1)) (fX6_explore_62 FU (upd w4 ((imin r1 (256 - 1)).toNatClampNeg) 0) (imin r1 (256 - 1)) v3 p1_cells p1_rows p1_sizes p1_rooms p1_acts v2 ((imin r1 (256 - 1)) - 1)))
set_option maxHeartbeats 4000000 in
set_option maxRecDepth 100000 in
theorem ctX6_explore (l : Launch) (g : GT) (sz : Nat) (a_t : Nat → Nat) (a_p1 : Nat → Nat) (t_all : Int32) (t_stride : Int32) (t_depths : Nat → Int32) (p1_told : Int32) (p1_lines : Int32) (p1_kinds : Int32) (p1_acts : Int32) (p1_cells : Nat → Int32) (p1_rows : Nat → Int32) (p1_sizes : Nat → Int32) (p1_rooms : Nat → Int32) (v2 : Int32) (v3 : Int32) (o_t_depths : Nat → Int32) (o_t_all : Int32) (o_t_stride : Int32) (h : fX6_explore t_depths t_all t_stride p1_cells p1_rows p1_sizes p1_rooms p1_acts v2 v3 = some (o_t_depths, o_t_all, o_t_stride)) : Met l yX6_explore (Cond.code yX6_explore cX6_explore 6 none :: Tw) ⟨6, 0, 0, 145⟩ (va_Pc [.ref ((a_t 0)), .ref ((a_p1 0)), .int v2, .int v3] (rwB g [((a_t 0), .inr (5, [.ref (a_t 1), .int t_all, .int t_stride])), ((a_t 1), .inl (g.2.2.1 0, 256, .inl t_depths)), ((a_p1 0), .inr (1, [.ref (a_p1 1), .ref (a_p1 2), .ref (a_p1 3), .ref (a_p1 4), .ref (a_p1 5), .int p1_told, .int p1_lines, .int p1_kinds, .int p1_acts])), ((a_p1 2), .inl (g.2.2.1 0, 144, .inl p1_cells)), ((a_p1 3), .inl (g.2.2.1 0, 31, .inl p1_rows)), ((a_p1 4), .inl (g.2.2.1 0, 31, .inl p1_sizes)), ((a_p1 5), .inl (g.2.2.1 0, 31, .inl p1_rooms))] sz)) (va_Qv (fun (_ : Nat → Nat) => True) (fun u => rwE g (va_A [((a_t 0), .inr (5, [.ref (a_t 1), .int t_all, .int t_stride])), ((a_t 1), .inl (g.2.2.1 0, 256, .inl t_depths)), ((a_p1 0), .inr (1, [.ref (a_p1 1), .ref (a_p1 2), .ref (a_p1 3), .ref (a_p1 4), .ref (a_p1 5), .int p1_told, .int p1_lines, .int p1_kinds, .int p1_acts])), ((a_p1 2), .inl (g.2.2.1 0, 144, .inl p1_cells)), ((a_p1 3), .inl (g.2.2.1 0, 31, .inl p1_rows)), ((a_p1 4), .inl (g.2.2.1 0, 31, .inl p1_sizes)), ((a_p1 5), .inl (g.2.2.1 0, 31, .inl p1_rooms))] sz) [((a_t 0), .inr (5, [.ref (a_t 1), .int o_t_all, .int o_t_stride])), ((a_t 1), .inl (g.2.2.1 0, 256, .inl o_t_depths)), ((a_p1 0), .inr (1, [.ref (a_p1 1), .ref (a_p1 2), .ref (a_p1 3), .ref (a_p1 4), .ref (a_p1 5), .int p1_told, .int p1_lines, .int p1_kinds, .int p1_acts])), ((a_p1 2), .inl (g.2.2.1 0, 144, .inl p1_cells)), ((a_p1 3), .inl (g.2.2.1 0, 31, .inl p1_rows)), ((a_p1 4), .inl (g.2.2.1 0, 31, .inl p1_sizes)), ((a_p1 5), .inl (g.2.2.1 0, 31, .inl p1_rooms))]) (va_A [((a_t 0), .inr (5, [.ref (a_t 1), .int t_all, .int t_stride])), ((a_t 1), .inl (g.2.2.1 0, 256, .inl t_depths)), ((a_p1 0), .inr (1, [.ref (a_p1 1), .ref (a_p1 2), .ref (a_p1 3), .ref (a_p1 4), .ref (a_p1 5), .int p1_told, .int p1_lines, .int p1_kinds, .int p1_acts])), ((a_p1 2), .inl (g.2.2.1 0, 144, .inl p1_cells)), ((a_p1 3), .inl (g.2.2.1 0, 31, .inl p1_rows)), ((a_p1 4), .inl (g.2.2.1 0, 31, .inl p1_sizes)), ((a_p1 5), .inl (g.2.2.1 0, 31, .inl p1_rooms))] sz)) 0 0 (va_A [((a_t 0), .inr (5, [.ref (a_t 1), .int t_all, .int t_stride])), ((a_t 1), .inl (g.2.2.1 0, 256, .inl t_depths)), ((a_p1 0), .inr (1, [.ref (a_p1 1), .ref (a_p1 2), .ref (a_p1 3), .ref (a_p1 4), .ref (a_p1 5), .int p1_told, .int p1_lines, .int p1_kinds, .int p1_acts])), ((a_p1 2), .inl (g.2.2.1 0, 144, .inl p1_cells)), ((a_p1 3), .inl (g.2.2.1 0, 31, .inl p1_rows)), ((a_p1 4), .inl (g.2.2.1 0, 31, .inl p1_sizes)), ((a_p1 5), .inl (g.2.2.1 0, 31, .inl p1_rooms))] sz) := by
  refine rw_metv (by decide) (Nat.le_of_ble_eq_true rfl) (lv0 := [(0, .ref ((a_t 0))), (1, .ref ((a_p1 0))), (2, .int v2), (3, .int v3)]) rfl ?_
  intro p e s m args below meth c ls Q A cx hret hG hAb hb0 hA hP hD hl
  have hx := cx.1
  have hb := cx.2.1
  have hG0 := hG
  have hGk : ∀ {H : Heap} {locs : List Loc}, va_S A s.heap H locs → GE g s H := fun hS => hG0.keptS hAb hS
  have hSb : ∀ {H : Heap} {locs : List Loc}, va_S A s.heap H locs → va_S (fun a => g.1 ≤ a) s.heap H locs := fun hS => ⟨hS.1, fun q h1 h2 => hS.2.1 q h1 (fun z => h2 (hAb q z)), fun l hl => hAb _ (hS.2.2 l hl)⟩
  have hS : va_S A s.heap s.heap [] := va_S.rf
  have w103 : ∀ (k62 : (Nat → Int32) → Int32 → Int32 → (Nat → Int32) → (Nat → Int32) → (Nat → Int32) → (Nat → Int32) → Int32 → Int32 → Int32 → Option ((Nat → Int32) × Int32 × Int32)) (hk62 : ∀ (t_depths : Nat → Int32) (t_all : Int32) (t_stride : Int32) (v2 : Int32) (v4 : Int32) (H : Heap) (locs : List Loc), va_P g.2.1 vwCl [((a_t 0), .inr (5, [.ref (a_t 1), .int t_all, .int t_stride])), ((a_t 1), .inl (g.2.2.1 0, 256, .inl t_depths)), ((a_p1 0), .inr (1, [.ref (a_p1 1), .ref (a_p1 2), .ref (a_p1 3), .ref (a_p1 4), .ref (a_p1 5), .int p1_told, .int p1_lines, .int p1_kinds, .int p1_acts])), ((a_p1 2), .inl (g.2.2.1 0, 144, .inl p1_cells)), ((a_p1 3), .inl (g.2.2.1 0, 31, .inl p1_rows)), ((a_p1 4), .inl (g.2.2.1 0, 31, .inl p1_sizes)), ((a_p1 5), .inl (g.2.2.1 0, 31, .inl p1_rooms))] H → va_D A [((a_t 0), .inr (5, [.ref (a_t 1), .int t_all, .int t_stride])), ((a_t 1), .inl (g.2.2.1 0, 256, .inl t_depths)), ((a_p1 0), .inr (1, [.ref (a_p1 1), .ref (a_p1 2), .ref (a_p1 3), .ref (a_p1 4), .ref (a_p1 5), .int p1_told, .int p1_lines, .int p1_kinds, .int p1_acts])), ((a_p1 2), .inl (g.2.2.1 0, 144, .inl p1_cells)), ((a_p1 3), .inl (g.2.2.1 0, 31, .inl p1_rows)), ((a_p1 4), .inl (g.2.2.1 0, 31, .inl p1_sizes)), ((a_p1 5), .inl (g.2.2.1 0, 31, .inl p1_rooms))] → va_S A s.heap H locs → ∀ (ls : Array Slot), lv_has ls 6 [(0, .ref ((a_t 0))), (1, .ref ((a_p1 0))), (2, .int v2), (4, .int v4)] → k62 t_depths t_all t_stride p1_cells p1_rows p1_sizes p1_rooms p1_acts v2 v4 = some (o_t_depths, o_t_all, o_t_stride) → W p l e ⟨6, 0, 0, 145⟩ s m args below meth c H locs 0 0 Q (F0 m 62 ls [])) (t_depths : Nat → Int32) (t_all : Int32) (t_stride : Int32) (v2 : Int32) (v4 : Int32) (H : Heap) (locs : List Loc), va_P g.2.1 vwCl [((a_t 0), .inr (5, [.ref (a_t 1), .int t_all, .int t_stride])), ((a_t 1), .inl (g.2.2.1 0, 256, .inl t_depths)), ((a_p1 0), .inr (1, [.ref (a_p1 1), .ref (a_p1 2), .ref (a_p1 3), .ref (a_p1 4), .ref (a_p1 5), .int p1_told, .int p1_lines, .int p1_kinds, .int p1_acts])), ((a_p1 2), .inl (g.2.2.1 0, 144, .inl p1_cells)), ((a_p1 3), .inl (g.2.2.1 0, 31, .inl p1_rows)), ((a_p1 4), .inl (g.2.2.1 0, 31, .inl p1_sizes)), ((a_p1 5), .inl (g.2.2.1 0, 31, .inl p1_rooms))] H → va_D A [((a_t 0), .inr (5, [.ref (a_t 1), .int t_all, .int t_stride])), ((a_t 1), .inl (g.2.2.1 0, 256, .inl t_depths)), ((a_p1 0), .inr (1, [.ref (a_p1 1), .ref (a_p1 2), .ref (a_p1 3), .ref (a_p1 4), .ref (a_p1 5), .int p1_told, .int p1_lines, .int p1_kinds, .int p1_acts])), ((a_p1 2), .inl (g.2.2.1 0, 144, .inl p1_cells)), ((a_p1 3), .inl (g.2.2.1 0, 31, .inl p1_rows)), ((a_p1 4), .inl (g.2.2.1 0, 31, .inl p1_sizes)), ((a_p1 5), .inl (g.2.2.1 0, 31, .inl p1_rooms))] → va_S A s.heap H locs → ∀ (ls : Array Slot), lv_has ls 6 [(0, .ref ((a_t 0))), (1, .ref ((a_p1 0))), (2, .int v2), (4, .int v4)] → fX6_explore_103 k62 t_depths t_all t_stride p1_cells p1_rows p1_sizes p1_rooms p1_acts v2 v4 = some (o_t_depths, o_t_all, o_t_stride) → W p l e ⟨6, 0, 0, 145⟩ s m args below meth c H locs 0 0 Q (F0 m 103 ls []) := by
    intro k62 hk62 t_depths t_all t_stride v2 v4 H locs hP hD hS ls hl h
    unfold fX6_explore_103 at h
    have hG := hGk hS
    refine lv_iinc (v := v4 + (-1)) (lv' := [(4, .int (v4 + (-1))), (0, .ref ((a_t 0))), (1, .ref ((a_p1 0))), (2, .int v2)]) hx hb dX6_explore_103 hl (k := 3) rfl rfl (by decide) rfl (fun ls hl => ?_)
    refine lv_goto (tgt := 62) hx hb dX6_explore_106 (by decide) ?_
    exact hk62 t_depths t_all t_stride v2 (v4 + (-1)) _ _ hP hD hS _ (lv_sub hl [1, 2, 3, 0] rfl) h
  have w62 : ∀ (n : Nat) (t_depths : Nat → Int32) (t_all : Int32) (t_stride : Int32) (v2 : Int32) (v4 : Int32) (H : Heap) (locs : List Loc), va_P g.2.1 vwCl [((a_t 0), .inr (5, [.ref (a_t 1), .int t_all, .int t_stride])), ((a_t 1), .inl (g.2.2.1 0, 256, .inl t_depths)), ((a_p1 0), .inr (1, [.ref (a_p1 1), .ref (a_p1 2), .ref (a_p1 3), .ref (a_p1 4), .ref (a_p1 5), .int p1_told, .int p1_lines, .int p1_kinds, .int p1_acts])), ((a_p1 2), .inl (g.2.2.1 0, 144, .inl p1_cells)), ((a_p1 3), .inl (g.2.2.1 0, 31, .inl p1_rows)), ((a_p1 4), .inl (g.2.2.1 0, 31, .inl p1_sizes)), ((a_p1 5), .inl (g.2.2.1 0, 31, .inl p1_rooms))] H → va_D A [((a_t 0), .inr (5, [.ref (a_t 1), .int t_all, .int t_stride])), ((a_t 1), .inl (g.2.2.1 0, 256, .inl t_depths)), ((a_p1 0), .inr (1, [.ref (a_p1 1), .ref (a_p1 2), .ref (a_p1 3), .ref (a_p1 4), .ref (a_p1 5), .int p1_told, .int p1_lines, .int p1_kinds, .int p1_acts])), ((a_p1 2), .inl (g.2.2.1 0, 144, .inl p1_cells)), ((a_p1 3), .inl (g.2.2.1 0, 31, .inl p1_rows)), ((a_p1 4), .inl (g.2.2.1 0, 31, .inl p1_sizes)), ((a_p1 5), .inl (g.2.2.1 0, 31, .inl p1_rooms))] → va_S A s.heap H locs → ∀ (ls : Array Slot), lv_has ls 6 [(0, .ref ((a_t 0))), (1, .ref ((a_p1 0))), (2, .int v2), (4, .int v4)] → fX6_explore_62  n t_depths t_all t_stride p1_cells p1_rows p1_sizes p1_rooms p1_acts v2 v4 = some (o_t_depths, o_t_all, o_t_stride) → W p l e ⟨6, 0, 0, 145⟩ s m args below meth c H locs 0 0 Q (F0 m 62 ls []) := by
    intro n
    induction n with
    | zero => intro t_depths t_all t_stride v2 v4 H locs hP hD hS ls hl h; cases (fX6_explore_62_z  t_depths t_all t_stride p1_cells p1_rows p1_sizes p1_rooms p1_acts v2 v4).symm.trans h
    | succ n ih =>
    intro t_depths t_all t_stride v2 v4 H locs hP hD hS ls hl h
    have h := (fX6_explore_62_s  n t_depths t_all t_stride p1_cells p1_rows p1_sizes p1_rooms p1_acts v2 v4).symm.trans h
    have hG := hGk hS
    refine lv_iload hx hb dX6_explore_62 (lv_at hl 3 rfl) ?_
    refine lv_iconst (v := 1) hx hb dX6_explore_64 (by decide) ?_
    refine lv_icmp_lt (tgt := 109) hx hb dX6_explore_65 (by decide) (fun c10 => ?_) (fun c10 => ?_)
    · have h := itp c10 h
      cases h
      exact hret (fun _ => 0) _ _ _ _ dX6_explore_109 (hP.sub [0, 1, 2, 3, 4, 5, 6] rfl) (hD.sub [0, 1, 2, 3, 4, 5, 6] (by decide) rfl) hS
    · have h := itn c10 h
      refine lv_aload_n hx hb dX6_explore_68 rfl (lv_at hl 0 rfl) ?_
      refine lv_iload hx hb dX6_explore_69 (lv_at hl 3 rfl) ?_
      obtain ⟨r11, hr12, h⟩ := bnd h
      refine ro_i (runV (As := [.int v4]) (rest := []) cx hl.1 (ctX6_leastDepthAbove l g a_t t_all t_stride t_depths v4 r11 hr12) kmX6_leastDepthAbove kvX6_leastDepthAbove lm_X6_66 ⟨rfl, rfl⟩ ⟨Nat.le_of_ble_eq_true rfl, Nat.le_of_ble_eq_true rfl⟩ (roV (q0 := 0) (ci := 5) hG (hP.sub [0, 1] rfl) hP rfl rfl) rfl rfl (Nat.le_of_ble_eq_true rfl) dX6_explore_71 ⟨Nat.le_of_ble_eq_true rfl, Nat.le_of_ble_eq_true rfl⟩) ?_
      refine lv_istore (lv' := [(5, .int r11), (0, .ref ((a_t 0))), (1, .ref ((a_p1 0))), (2, .int v2), (4, .int v4)]) hx hb dX6_explore_74 hl (by decide) rfl (fun ls hl => ?_)
      refine lv_iload hx hb dX6_explore_76 (lv_at hl 0 rfl) ?_
      refine lv_iconst (v := -1) hx hb dX6_explore_78 (by decide) ?_
      refine lv_icmp_eq (tgt := 103) hx hb dX6_explore_79 (by decide) (fun c13 => ?_) (fun c13 => ?_)
      · have h := itp c13 h
        exact w103 _ ih t_depths t_all t_stride v2 v4 _ _ hP hD hS _ (lv_sub hl [1, 2, 3, 4] rfl) h
      · have h := itn c13 h
        refine lv_aload_n hx hb dX6_explore_82 rfl (lv_at hl 2 rfl) ?_
        refine lv_iload hx hb dX6_explore_83 (lv_at hl 4 rfl) ?_
        refine lv_iload_n hx hb dX6_explore_85 rfl (lv_at hl 3 rfl) ?_
        obtain ⟨r14, hr15, h⟩ := bnd h
        refine ro_z (runS (As := [.ref ((a_p1 0)), .int v4, .int v2]) (rest := []) cx hl.1 (ctX6_isThin l g a_p1 p1_told p1_lines p1_kinds p1_acts p1_cells p1_rows p1_sizes p1_rooms v4 v2 r14 hr15) kmX6_isThin ksX6_isThin lm_X6_43 ⟨rfl, rfl⟩ ⟨Nat.le_of_ble_eq_true rfl, Nat.le_of_ble_eq_true rfl⟩ (roS hG (hP.sub [2, 3, 4, 5, 6] rfl)) rfl rfl (Nat.le_of_ble_eq_true rfl) dX6_explore_86 ⟨Nat.le_of_ble_eq_true rfl, Nat.le_of_ble_eq_true rfl⟩) (fun hz16 => ?_)
        refine lv_if_eq (tgt := 103) hx hb dX6_explore_89 (by decide) (fun c17 => ?_) (fun c17 => ?_)
        · have h := itp c17 h
          exact w103 _ ih t_depths t_all t_stride v2 v4 _ _ hP hD hS _ (lv_sub hl [1, 2, 3, 4] rfl) h
        · have h := itn c17 h
          refine lv_aload_n hx hb dX6_explore_92 rfl (lv_at hl 1 rfl) ?_
          refine xa_get (C := RX6) (T := TX6) (N := 3) cx hG hP 0 rfl rfl uX6 0 (by decide) lf_X6_9 rfl dX6_explore_93 ?_
          refine lv_iload hx hb dX6_explore_96 (lv_at hl 4 rfl) ?_
          refine lv_iload hx hb dX6_explore_98 (lv_at hl 0 rfl) ?_
          refine lv_iconst (v := 1) hx hb dX6_explore_100 (by decide) ?_
          refine lv_iadd hx hb dX6_explore_101 ?_
          obtain ⟨hi18, h⟩ := chk_out h
          refine xw_iast (ws' := [((a_t 0), .inr (5, [.ref (a_t 1), .int t_all, .int t_stride])), ((a_t 1), .inl (g.2.2.1 0, 256, .inl (upd t_depths v4.toNatClampNeg (r11 + 1)))), ((a_p1 0), .inr (1, [.ref (a_p1 1), .ref (a_p1 2), .ref (a_p1 3), .ref (a_p1 4), .ref (a_p1 5), .int p1_told, .int p1_lines, .int p1_kinds, .int p1_acts])), ((a_p1 2), .inl (g.2.2.1 0, 144, .inl p1_cells)), ((a_p1 3), .inl (g.2.2.1 0, 31, .inl p1_rows)), ((a_p1 4), .inl (g.2.2.1 0, 31, .inl p1_sizes)), ((a_p1 5), .inl (g.2.2.1 0, 31, .inl p1_rooms))]) (k := v4.toNatClampNeg) cx hG hP hD hS 1 rfl hi18 rfl rfl dX6_explore_102 (fun H locs hP hD hS => ?_)
          have hG := hGk hS
          exact w103 _ ih (upd t_depths v4.toNatClampNeg (r11 + 1)) t_all t_stride v2 v4 _ _ hP hD hS _ (lv_sub hl [1, 2, 3, 4] rfl) h
  unfold fX6_explore at h
  refine lv_aload_n hx hb dX6_explore_0 rfl (lv_at hl 0 rfl) ?_
  refine lv_iload_n hx hb dX6_explore_1 rfl (lv_at hl 3 rfl) ?_
  refine xw_put (C := RX6) (T := TX6) (N := 3) (ty := .int) (v := .int v3) (ws' := [((a_t 0), .inr (5, [.ref (a_t 1), .int t_all, .int v3])), ((a_t 1), .inl (g.2.2.1 0, 256, .inl t_depths)), ((a_p1 0), .inr (1, [.ref (a_p1 1), .ref (a_p1 2), .ref (a_p1 3), .ref (a_p1 4), .ref (a_p1 5), .int p1_told, .int p1_lines, .int p1_kinds, .int p1_acts])), ((a_p1 2), .inl (g.2.2.1 0, 144, .inl p1_cells)), ((a_p1 3), .inl (g.2.2.1 0, 31, .inl p1_rows)), ((a_p1 4), .inl (g.2.2.1 0, 31, .inl p1_sizes)), ((a_p1 5), .inl (g.2.2.1 0, 31, .inl p1_rooms))]) cx hG hP hD hS 0 rfl rfl uX6 tyX6 tyX6_ok nmX6 2 (by decide) lf_X6_47 rfl (by decide +kernel) rfl rfl (Nat.le_of_ble_eq_true rfl) rfl dX6_explore_2 (fun H locs hP hD hS => ?_)
  have hG := hGk hS
  refine lv_aload_n hx hb dX6_explore_5 rfl (lv_at hl 0 rfl) ?_
  refine lv_aload_n hx hb dX6_explore_6 rfl (lv_at hl 1 rfl) ?_
  obtain ⟨r1, hr2, h⟩ := bnd h
  refine ro_i (runVN (As := []) (rest := [.ref ((a_t 0))]) hG cx hl.1 (ctX1_allPlies l g a_p1 p1_told p1_lines p1_kinds p1_acts p1_sizes r1 hr2) kmX1_allPlies kvX1_allPlies nm_81 ⟨rfl, rfl⟩ ⟨Nat.le_of_ble_eq_true rfl, Nat.le_of_ble_eq_true rfl⟩ (roV (q0 := 2) (ci := 1) hG (hP.sub [2, 5] rfl) hP rfl rfl) rfl rfl (Nat.le_of_ble_eq_true rfl) dX6_explore_7 ⟨Nat.le_of_ble_eq_true rfl, Nat.le_of_ble_eq_true rfl⟩) ?_
  refine lv_aload_n hx hb dX6_explore_10 rfl (lv_at hl 0 rfl) ?_
  refine xa_get (C := RX6) (T := TX6) (N := 3) cx hG hP 0 rfl rfl uX6 0 (by decide) lf_X6_9 rfl dX6_explore_11 ?_
  refine xa_len cx hG hP 1 rfl 0 rfl (v := 256) rfl dX6_explore_14 ?_
  refine lv_iconst (v := 1) hx hb dX6_explore_15 (by decide) ?_
  refine lv_isub hx hb dX6_explore_16 ?_
  refine xm_imin cx hl.1 lm_X6_51 ⟨ksJ9_min_7cf53, kmJ9_min_7cf53.2.1, kmJ9_min_7cf53.1⟩ (Nat.le_of_ble_eq_true rfl) (Nat.le_of_ble_eq_true rfl) (Nat.le_of_ble_eq_true rfl) (Nat.le_of_ble_eq_true rfl) dX6_explore_17 ?_
  refine xw_put (C := RX6) (T := TX6) (N := 3) (ty := .int) (v := .int (imin r1 (256 - 1))) (ws' := [((a_t 0), .inr (5, [.ref (a_t 1), .int (imin r1 (256 - 1)), .int v3])), ((a_t 1), .inl (g.2.2.1 0, 256, .inl t_depths)), ((a_p1 0), .inr (1, [.ref (a_p1 1), .ref (a_p1 2), .ref (a_p1 3), .ref (a_p1 4), .ref (a_p1 5), .int p1_told, .int p1_lines, .int p1_kinds, .int p1_acts])), ((a_p1 2), .inl (g.2.2.1 0, 144, .inl p1_cells)), ((a_p1 3), .inl (g.2.2.1 0, 31, .inl p1_rows)), ((a_p1 4), .inl (g.2.2.1 0, 31, .inl p1_sizes)), ((a_p1 5), .inl (g.2.2.1 0, 31, .inl p1_rooms))]) cx hG hP hD hS 0 rfl rfl uX6 tyX6 tyX6_ok nmX6 1 (by decide) lf_X6_57 rfl (by decide +kernel) rfl rfl (Nat.le_of_ble_eq_true rfl) rfl dX6_explore_20 (fun H locs hP hD hS => ?_)
  have hG := hGk hS
  refine lv_aload_n hx hb dX6_explore_23 rfl (lv_at hl 0 rfl) ?_
  refine xa_get (C := RX6) (T := TX6) (N := 3) cx hG hP 0 rfl rfl uX6 0 (by decide) lf_X6_9 rfl dX6_explore_24 ?_
  refine lv_iconst (v := -1) hx hb dX6_explore_27 (by decide) ?_
  obtain ⟨w4, hr3, h⟩ := bnd h
  refine rw_v (WN := fun u => [((a_t 0), .inr (5, [.ref (a_t 1), .int (imin r1 (256 - 1)), .int v3])), ((a_p1 0), .inr (1, [.ref (a_p1 1), .ref (a_p1 2), .ref (a_p1 3), .ref (a_p1 4), .ref (a_p1 5), .int p1_told, .int p1_lines, .int p1_kinds, .int p1_acts])), ((a_p1 2), .inl (g.2.2.1 0, 144, .inl p1_cells)), ((a_p1 3), .inl (g.2.2.1 0, 31, .inl p1_rows)), ((a_p1 4), .inl (g.2.2.1 0, 31, .inl p1_sizes)), ((a_p1 5), .inl (g.2.2.1 0, 31, .inl p1_rooms)), ((a_t 1), .inl (g.2.2.1 0, 256, .inl w4))]) (wr := [((a_t 0), .inr (5, [.ref (a_t 1), .int (imin r1 (256 - 1)), .int v3])), ((a_p1 0), .inr (1, [.ref (a_p1 1), .ref (a_p1 2), .ref (a_p1 3), .ref (a_p1 4), .ref (a_p1 5), .int p1_told, .int p1_lines, .int p1_kinds, .int p1_acts])), ((a_p1 2), .inl (g.2.2.1 0, 144, .inl p1_cells)), ((a_p1 3), .inl (g.2.2.1 0, 31, .inl p1_rows)), ((a_p1 4), .inl (g.2.2.1 0, 31, .inl p1_sizes)), ((a_p1 5), .inl (g.2.2.1 0, 31, .inl p1_rooms))]) (runS (As := [.ref ((a_t 1)), .int (-1)]) (rest := []) cx hl.1 (ctJ7_fill_53178 l g H.size (a_t 1) 256 t_depths (-1) w4 hr3) kmJ7_fill_53178 ksJ7_fill_53178 lm_X6_60 ⟨rfl, rfl⟩ ⟨Nat.le_of_ble_eq_true rfl, Nat.le_of_ble_eq_true rfl⟩ (rwS hG (hP.sub [1] rfl) (hD.sub [1] (by decide) rfl) hAb hb0 hS) rfl rfl (Nat.le_of_ble_eq_true rfl) dX6_explore_28 ⟨Nat.le_of_ble_eq_true rfl, Nat.le_of_ble_eq_true rfl⟩) hP hD hS hA [1] [0, 2, 3, 4, 5, 6] rfl rfl (by decide) (by decide) (fun _ => rfl) (fun u H locs hP hD hS => ?_)
  have hG := hGk hS
  refine lv_aload_n hx hb dX6_explore_31 rfl (lv_at hl 1 rfl) ?_
  refine lv_aload_n hx hb dX6_explore_32 rfl (lv_at hl 0 rfl) ?_
  refine xa_get (C := RX6) (T := TX6) (N := 3) cx hG hP 0 rfl rfl uX6 1 (by decide) lf_X6_57 rfl dX6_explore_33 ?_
  refine lv_iload_n hx hb dX6_explore_36 rfl (lv_at hl 2 rfl) ?_
  obtain ⟨r5, hr6, h⟩ := bnd h
  refine ro_z (runS (As := [.ref ((a_p1 0)), .int (imin r1 (256 - 1)), .int v2]) (rest := []) cx hl.1 (ctX6_isThin l g a_p1 p1_told p1_lines p1_kinds p1_acts p1_cells p1_rows p1_sizes p1_rooms (imin r1 (256 - 1)) v2 r5 hr6) kmX6_isThin ksX6_isThin lm_X6_43 ⟨rfl, rfl⟩ ⟨Nat.le_of_ble_eq_true rfl, Nat.le_of_ble_eq_true rfl⟩ (roS hG (hP.sub [1, 2, 3, 4, 5] rfl)) rfl rfl (Nat.le_of_ble_eq_true rfl) dX6_explore_37 ⟨Nat.le_of_ble_eq_true rfl, Nat.le_of_ble_eq_true rfl⟩) (fun hz7 => ?_)
  refine lv_if_ne (tgt := 44) hx hb dX6_explore_40 (by decide) (fun c8 => ?_) (fun c8 => ?_)
  · have h := itn c8 h
    refine lv_aload_n hx hb dX6_explore_44 rfl (lv_at hl 0 rfl) ?_
    refine xa_get (C := RX6) (T := TX6) (N := 3) cx hG hP 0 rfl rfl uX6 0 (by decide) lf_X6_9 rfl dX6_explore_45 ?_
    refine lv_aload_n hx hb dX6_explore_48 rfl (lv_at hl 0 rfl) ?_
    refine xa_get (C := RX6) (T := TX6) (N := 3) cx hG hP 0 rfl rfl uX6 1 (by decide) lf_X6_57 rfl dX6_explore_49 ?_
    refine lv_iconst (v := 0) hx hb dX6_explore_52 (by decide) ?_
    obtain ⟨hi9, h⟩ := chk_out h
    refine xw_iast (ws' := [((a_t 0), .inr (5, [.ref (a_t 1), .int (imin r1 (256 - 1)), .int v3])), ((a_p1 0), .inr (1, [.ref (a_p1 1), .ref (a_p1 2), .ref (a_p1 3), .ref (a_p1 4), .ref (a_p1 5), .int p1_told, .int p1_lines, .int p1_kinds, .int p1_acts])), ((a_p1 2), .inl (g.2.2.1 0, 144, .inl p1_cells)), ((a_p1 3), .inl (g.2.2.1 0, 31, .inl p1_rows)), ((a_p1 4), .inl (g.2.2.1 0, 31, .inl p1_sizes)), ((a_p1 5), .inl (g.2.2.1 0, 31, .inl p1_rooms)), ((a_t 1), .inl (g.2.2.1 0, 256, .inl (upd w4 ((imin r1 (256 - 1)).toNatClampNeg) 0)))]) (k := ((imin r1 (256 - 1)).toNatClampNeg)) cx hG hP hD hS 6 rfl hi9 rfl rfl dX6_explore_53 (fun H locs hP hD hS => ?_)
    have hG := hGk hS
    refine lv_aload_n hx hb dX6_explore_54 rfl (lv_at hl 0 rfl) ?_
    refine xa_get (C := RX6) (T := TX6) (N := 3) cx hG hP 0 rfl rfl uX6 1 (by decide) lf_X6_57 rfl dX6_explore_55 ?_
    refine lv_iconst (v := 1) hx hb dX6_explore_58 (by decide) ?_
    refine lv_isub hx hb dX6_explore_59 ?_
    refine lv_istore (lv' := [(4, .int ((imin r1 (256 - 1)) - 1)), (0, .ref ((a_t 0))), (1, .ref ((a_p1 0))), (2, .int v2), (3, .int v3)]) hx hb dX6_explore_60 hl (by decide) rfl (fun ls hl => ?_)
    exact w62 FU (upd w4 ((imin r1 (256 - 1)).toNatClampNeg) 0) (imin r1 (256 - 1)) v3 v2 ((imin r1 (256 - 1)) - 1) _ _ (hP.sub [0, 6, 1, 2, 3, 4, 5] rfl) (hD.sub [0, 6, 1, 2, 3, 4, 5] (by decide) rfl) hS _ (lv_sub hl [1, 2, 3, 0] rfl) h
  · have h := itp c8 h
    cases h
    exact hret (fun _ => 0) _ _ _ _ dX6_explore_43 (hP.sub [0, 6, 1, 2, 3, 4, 5] rfl) (hD.sub [0, 6, 1, 2, 3, 4, 5] (by decide) rfl) hS
-- X1_number
theorem dX1_number_0 : decode cX1_number 0 = .ok (.iload_n 1, 1) := by decide +kernel
theorem dX1_number_1 : decode cX1_number 1 = .ok (.ifCond .lt 17, 3) := by decide +kernel
theorem dX1_number_4 : decode cX1_number 4 = .ok (.iload_n 1, 1) := by decide +kernel
theorem dX1_number_5 : decode cX1_number 5 = .ok (.iconst 3, 1) := by decide +kernel
theorem dX1_number_6 : decode cX1_number 6 = .ok (.if_icmp .ge 12, 3) := by decide +kernel
theorem dX1_number_9 : decode cX1_number 9 = .ok (.iload_n 2, 1) := by decide +kernel
theorem dX1_number_10 : decode cX1_number 10 = .ok (.ifCond .lt 8, 3) := by decide +kernel
theorem dX1_number_13 : decode cX1_number 13 = .ok (.iload_n 2, 1) := by decide +kernel
theorem dX1_number_14 : decode cX1_number 14 = .ok (.iconst 4, 1) := by decide +kernel
theorem dX1_number_15 : decode cX1_number 15 = .ok (.if_icmp .le 7, 3) := by decide +kernel
theorem dX1_number_18 : decode cX1_number 18 = .ok (.iconst 0, 1) := by decide +kernel
theorem dX1_number_19 : decode cX1_number 19 = .ok (.goto 13, 3) := by decide +kernel
theorem dX1_number_22 : decode cX1_number 22 = .ok (.aload_n 0, 1) := by decide +kernel
theorem dX1_number_23 : decode cX1_number 23 = .ok (.getfield 9, 3) := by decide +kernel
theorem dX1_number_26 : decode cX1_number 26 = .ok (.iconst 5, 1) := by decide +kernel
theorem dX1_number_27 : decode cX1_number 27 = .ok (.iload_n 1, 1) := by decide +kernel
theorem dX1_number_28 : decode cX1_number 28 = .ok (.imul, 1) := by decide +kernel
theorem dX1_number_29 : decode cX1_number 29 = .ok (.iload_n 2, 1) := by decide +kernel
theorem dX1_number_30 : decode cX1_number 30 = .ok (.iadd, 1) := by decide +kernel
theorem dX1_number_31 : decode cX1_number 31 = .ok (.iaload, 1) := by decide +kernel
theorem dX1_number_32 : decode cX1_number 32 = .ok (.ireturn, 1) := by decide +kernel
noncomputable def fX1_number  (t_numbers : Nat → Int32) (v1 : Int32) (v2 : Int32) : Option (Int32) := (if v1 < 0 then some (0) else (if 3 ≤ v1 then some (0) else (if v2 < 0 then some (0) else (if v2 ≤ 4 then chk 15 ((5 * v1) + v2) (some (t_numbers ((5 * v1) + v2).toNatClampNeg)) else some (0)))))
set_option maxHeartbeats 4000000 in
set_option maxRecDepth 100000 in
theorem ctX1_number (l : Launch) (g : GT) (a_t : Nat → Nat) (t_told : Int32) (t_lines : Int32) (t_kinds : Int32) (t_acts : Int32) (t_numbers : Nat → Int32) (v1 : Int32) (v2 : Int32) (o : Int32) (h : fX1_number t_numbers v1 v2 = some o) : Met l yX1_number (Cond.code yX1_number cX1_number 3 (some .int) :: Tw) ⟨0, 0, 0, 0⟩ (va_Pc [.ref ((a_t 0)), .int v1, .int v2] (roB g [((a_t 0), .inr (1, [.ref (a_t 1), .ref (a_t 2), .ref (a_t 3), .ref (a_t 4), .ref (a_t 5), .int t_told, .int t_lines, .int t_kinds, .int t_acts])), ((a_t 1), .inl (g.2.2.1 0, 15, .inl t_numbers))])) (vp_Si (fun x => x = o)) 0 0 (fun _ => False) := by
  refine ro_meti (by decide) (Nat.le_of_ble_eq_true rfl) (lv0 := [(0, .ref ((a_t 0))), (1, .int v1), (2, .int v2)]) rfl ?_
  intro p e s m args below meth c ls Q cx hret hG hP hl
  have hx := cx.1
  have hb := cx.2.1
  have hG0 := hG
  unfold fX1_number at h
  refine lv_iload_n hx hb dX1_number_0 rfl (lv_at hl 1 rfl) ?_
  refine lv_if_lt (tgt := 18) hx hb dX1_number_1 (by decide) (fun c1 => ?_) (fun c1 => ?_)
  · have h := itp c1 h
    refine lv_iconst (v := 0) hx hb dX1_number_18 (by decide) ?_
    refine lv_goto (tgt := 32) hx hb dX1_number_19 (by decide) ?_
    exact hret _ _ _ dX1_number_32 (Option.some.inj h)
  · have h := itn c1 h
    refine lv_iload_n hx hb dX1_number_4 rfl (lv_at hl 1 rfl) ?_
    refine lv_iconst (v := 3) hx hb dX1_number_5 (by decide) ?_
    refine lv_icmp_ge (tgt := 18) hx hb dX1_number_6 (by decide) (fun c2 => ?_) (fun c2 => ?_)
    · have h := itp c2 h
      refine lv_iconst (v := 0) hx hb dX1_number_18 (by decide) ?_
      refine lv_goto (tgt := 32) hx hb dX1_number_19 (by decide) ?_
      exact hret _ _ _ dX1_number_32 (Option.some.inj h)
    · have h := itn c2 h
      refine lv_iload_n hx hb dX1_number_9 rfl (lv_at hl 2 rfl) ?_
      refine lv_if_lt (tgt := 18) hx hb dX1_number_10 (by decide) (fun c3 => ?_) (fun c3 => ?_)
      · have h := itp c3 h
        refine lv_iconst (v := 0) hx hb dX1_number_18 (by decide) ?_
        refine lv_goto (tgt := 32) hx hb dX1_number_19 (by decide) ?_
        exact hret _ _ _ dX1_number_32 (Option.some.inj h)
      · have h := itn c3 h
        refine lv_iload_n hx hb dX1_number_13 rfl (lv_at hl 2 rfl) ?_
        refine lv_iconst (v := 4) hx hb dX1_number_14 (by decide) ?_
        refine lv_icmp_le (tgt := 22) hx hb dX1_number_15 (by decide) (fun c4 => ?_) (fun c4 => ?_)
        · have h := itp c4 h
          refine lv_aload_n hx hb dX1_number_22 rfl (lv_at hl 0 rfl) ?_
          refine xa_get (C := RX1) (T := TX1) (N := 9) cx hG hP 0 rfl rfl uX1 0 (by decide) lf_X1_9 rfl dX1_number_23 ?_
          refine lv_iconst (v := 5) hx hb dX1_number_26 (by decide) ?_
          refine lv_iload_n hx hb dX1_number_27 rfl (lv_at hl 1 rfl) ?_
          refine lv_imul hx hb dX1_number_28 ?_
          refine lv_iload_n hx hb dX1_number_29 rfl (lv_at hl 2 rfl) ?_
          refine lv_iadd hx hb dX1_number_30 ?_
          obtain ⟨hi5, h⟩ := chk_out h
          refine xa_iald cx hG hP 1 rfl hi5 rfl dX1_number_31 ?_
          exact hret _ _ _ dX1_number_32 (Option.some.inj h)
        · have h := itn c4 h
          refine lv_iconst (v := 0) hx hb dX1_number_18 (by decide) ?_
          refine lv_goto (tgt := 32) hx hb dX1_number_19 (by decide) ?_
          exact hret _ _ _ dX1_number_32 (Option.some.inj h)
-- X1_setCell
theorem dX1_setCell_0 : decode cX1_setCell 0 = .ok (.aload_n 0, 1) := by decide +kernel
theorem dX1_setCell_1 : decode cX1_setCell 1 = .ok (.getfield 15, 3) := by decide +kernel
theorem dX1_setCell_4 : decode cX1_setCell 4 = .ok (.iload_n 1, 1) := by decide +kernel
theorem dX1_setCell_5 : decode cX1_setCell 5 = .ok (.bipush 15, 2) := by decide +kernel
theorem dX1_setCell_7 : decode cX1_setCell 7 = .ok (.iand, 1) := by decide +kernel
theorem dX1_setCell_8 : decode cX1_setCell 8 = .ok (.bipush 9, 2) := by decide +kernel
theorem dX1_setCell_10 : decode cX1_setCell 10 = .ok (.imul, 1) := by decide +kernel
theorem dX1_setCell_11 : decode cX1_setCell 11 = .ok (.iload_n 2, 1) := by decide +kernel
theorem dX1_setCell_12 : decode cX1_setCell 12 = .ok (.iadd, 1) := by decide +kernel
theorem dX1_setCell_13 : decode cX1_setCell 13 = .ok (.iload_n 3, 1) := by decide +kernel
theorem dX1_setCell_14 : decode cX1_setCell 14 = .ok (.iastore, 1) := by decide +kernel
theorem dX1_setCell_15 : decode cX1_setCell 15 = .ok (.return_, 1) := by decide +kernel
noncomputable def fX1_setCell  (t_cells : Nat → Int32) (v1 : Int32) (v2 : Int32) (v3 : Int32) : Option ((Nat → Int32)) := chk 144 (((v1 &&& 15) * 9) + v2) (some (upd t_cells ((((v1 &&& 15) * 9) + v2).toNatClampNeg) v3))
set_option maxHeartbeats 4000000 in
set_option maxRecDepth 100000 in
theorem ctX1_setCell (l : Launch) (g : GT) (sz : Nat) (a_t : Nat → Nat) (t_told : Int32) (t_lines : Int32) (t_kinds : Int32) (t_acts : Int32) (t_cells : Nat → Int32) (v1 : Int32) (v2 : Int32) (v3 : Int32) (o_t_cells : Nat → Int32) (h : fX1_setCell t_cells v1 v2 v3 = some (o_t_cells)) : Met l yX1_setCell (Cond.code yX1_setCell cX1_setCell 4 none :: Tw) ⟨0, 0, 0, 0⟩ (va_Pc [.ref ((a_t 0)), .int v1, .int v2, .int v3] (rwB g [((a_t 0), .inr (1, [.ref (a_t 1), .ref (a_t 2), .ref (a_t 3), .ref (a_t 4), .ref (a_t 5), .int t_told, .int t_lines, .int t_kinds, .int t_acts])), ((a_t 2), .inl (g.2.2.1 0, 144, .inl t_cells))] sz)) (va_Qv (fun (_ : Nat → Nat) => True) (fun u => rwE g (va_A [((a_t 0), .inr (1, [.ref (a_t 1), .ref (a_t 2), .ref (a_t 3), .ref (a_t 4), .ref (a_t 5), .int t_told, .int t_lines, .int t_kinds, .int t_acts])), ((a_t 2), .inl (g.2.2.1 0, 144, .inl t_cells))] sz) [((a_t 0), .inr (1, [.ref (a_t 1), .ref (a_t 2), .ref (a_t 3), .ref (a_t 4), .ref (a_t 5), .int t_told, .int t_lines, .int t_kinds, .int t_acts])), ((a_t 2), .inl (g.2.2.1 0, 144, .inl o_t_cells))]) (va_A [((a_t 0), .inr (1, [.ref (a_t 1), .ref (a_t 2), .ref (a_t 3), .ref (a_t 4), .ref (a_t 5), .int t_told, .int t_lines, .int t_kinds, .int t_acts])), ((a_t 2), .inl (g.2.2.1 0, 144, .inl t_cells))] sz)) 0 0 (va_A [((a_t 0), .inr (1, [.ref (a_t 1), .ref (a_t 2), .ref (a_t 3), .ref (a_t 4), .ref (a_t 5), .int t_told, .int t_lines, .int t_kinds, .int t_acts])), ((a_t 2), .inl (g.2.2.1 0, 144, .inl t_cells))] sz) := by
  refine rw_metv (by decide) (Nat.le_of_ble_eq_true rfl) (lv0 := [(0, .ref ((a_t 0))), (1, .int v1), (2, .int v2), (3, .int v3)]) rfl ?_
  intro p e s m args below meth c ls Q A cx hret hG hAb hb0 hA hP hD hl
  have hx := cx.1
  have hb := cx.2.1
  have hG0 := hG
  have hGk : ∀ {H : Heap} {locs : List Loc}, va_S A s.heap H locs → GE g s H := fun hS => hG0.keptS hAb hS
  have hSb : ∀ {H : Heap} {locs : List Loc}, va_S A s.heap H locs → va_S (fun a => g.1 ≤ a) s.heap H locs := fun hS => ⟨hS.1, fun q h1 h2 => hS.2.1 q h1 (fun z => h2 (hAb q z)), fun l hl => hAb _ (hS.2.2 l hl)⟩
  have hS : va_S A s.heap s.heap [] := va_S.rf
  unfold fX1_setCell at h
  refine lv_aload_n hx hb dX1_setCell_0 rfl (lv_at hl 0 rfl) ?_
  refine xa_get (C := RX1) (T := TX1) (N := 9) cx hG hP 0 rfl rfl uX1 1 (by decide) lf_X1_15 rfl dX1_setCell_1 ?_
  refine lv_iload_n hx hb dX1_setCell_4 rfl (lv_at hl 1 rfl) ?_
  refine lv_bipush (v := 15) hx hb dX1_setCell_5 (by decide) ?_
  refine lv_iand hx hb dX1_setCell_7 ?_
  refine lv_bipush (v := 9) hx hb dX1_setCell_8 (by decide) ?_
  refine lv_imul hx hb dX1_setCell_10 ?_
  refine lv_iload_n hx hb dX1_setCell_11 rfl (lv_at hl 2 rfl) ?_
  refine lv_iadd hx hb dX1_setCell_12 ?_
  refine lv_iload_n hx hb dX1_setCell_13 rfl (lv_at hl 3 rfl) ?_
  obtain ⟨hi1, h⟩ := chk_out h
  refine xw_iast (ws' := [((a_t 0), .inr (1, [.ref (a_t 1), .ref (a_t 2), .ref (a_t 3), .ref (a_t 4), .ref (a_t 5), .int t_told, .int t_lines, .int t_kinds, .int t_acts])), ((a_t 2), .inl (g.2.2.1 0, 144, .inl (upd t_cells ((((v1 &&& 15) * 9) + v2).toNatClampNeg) v3)))]) (k := ((((v1 &&& 15) * 9) + v2).toNatClampNeg)) cx hG hP hD hS 1 rfl hi1 rfl rfl dX1_setCell_14 (fun H locs hP hD hS => ?_)
  have hG := hGk hS
  cases h
  exact hret (fun _ => 0) _ _ _ _ dX1_setCell_15 (hP.sub [0, 1] rfl) (hD.sub [0, 1] (by decide) rfl) hS
-- X1_fillCells
theorem dX1_fillCells_0 : decode cX1_fillCells 0 = .ok (.aload_n 0, 1) := by decide +kernel
theorem dX1_fillCells_1 : decode cX1_fillCells 1 = .ok (.iload_n 1, 1) := by decide +kernel
theorem dX1_fillCells_2 : decode cX1_fillCells 2 = .ok (.iconst 0, 1) := by decide +kernel
theorem dX1_fillCells_3 : decode cX1_fillCells 3 = .ok (.invokevirtual 64, 3) := by decide +kernel
theorem dX1_fillCells_6 : decode cX1_fillCells 6 = .ok (.istore_n 2, 1) := by decide +kernel
theorem dX1_fillCells_7 : decode cX1_fillCells 7 = .ok (.aload_n 0, 1) := by decide +kernel
theorem dX1_fillCells_8 : decode cX1_fillCells 8 = .ok (.iload_n 1, 1) := by decide +kernel
theorem dX1_fillCells_9 : decode cX1_fillCells 9 = .ok (.iconst 1, 1) := by decide +kernel
theorem dX1_fillCells_10 : decode cX1_fillCells 10 = .ok (.invokevirtual 64, 3) := by decide +kernel
theorem dX1_fillCells_13 : decode cX1_fillCells 13 = .ok (.istore_n 3, 1) := by decide +kernel
theorem dX1_fillCells_14 : decode cX1_fillCells 14 = .ok (.aload_n 0, 1) := by decide +kernel
theorem dX1_fillCells_15 : decode cX1_fillCells 15 = .ok (.iload_n 1, 1) := by decide +kernel
theorem dX1_fillCells_16 : decode cX1_fillCells 16 = .ok (.iconst 2, 1) := by decide +kernel
theorem dX1_fillCells_17 : decode cX1_fillCells 17 = .ok (.invokevirtual 64, 3) := by decide +kernel
theorem dX1_fillCells_20 : decode cX1_fillCells 20 = .ok (.istore 4, 2) := by decide +kernel
theorem dX1_fillCells_22 : decode cX1_fillCells 22 = .ok (.aload_n 0, 1) := by decide +kernel
theorem dX1_fillCells_23 : decode cX1_fillCells 23 = .ok (.iload_n 1, 1) := by decide +kernel
theorem dX1_fillCells_24 : decode cX1_fillCells 24 = .ok (.iconst 3, 1) := by decide +kernel
theorem dX1_fillCells_25 : decode cX1_fillCells 25 = .ok (.invokevirtual 64, 3) := by decide +kernel
theorem dX1_fillCells_28 : decode cX1_fillCells 28 = .ok (.istore 5, 2) := by decide +kernel
theorem dX1_fillCells_30 : decode cX1_fillCells 30 = .ok (.iconst 0, 1) := by decide +kernel
theorem dX1_fillCells_31 : decode cX1_fillCells 31 = .ok (.istore 6, 2) := by decide +kernel
theorem dX1_fillCells_33 : decode cX1_fillCells 33 = .ok (.iload 6, 2) := by decide +kernel
theorem dX1_fillCells_35 : decode cX1_fillCells 35 = .ok (.iconst 4, 1) := by decide +kernel
theorem dX1_fillCells_36 : decode cX1_fillCells 36 = .ok (.if_icmp .ge 165, 3) := by decide +kernel
theorem dX1_fillCells_39 : decode cX1_fillCells 39 = .ok (.iload_n 1, 1) := by decide +kernel
theorem dX1_fillCells_40 : decode cX1_fillCells 40 = .ok (.iconst 4, 1) := by decide +kernel
theorem dX1_fillCells_41 : decode cX1_fillCells 41 = .ok (.imul, 1) := by decide +kernel
theorem dX1_fillCells_42 : decode cX1_fillCells 42 = .ok (.iload 6, 2) := by decide +kernel
theorem dX1_fillCells_44 : decode cX1_fillCells 44 = .ok (.iadd, 1) := by decide +kernel
theorem dX1_fillCells_45 : decode cX1_fillCells 45 = .ok (.istore 7, 2) := by decide +kernel
theorem dX1_fillCells_47 : decode cX1_fillCells 47 = .ok (.iconst 2, 1) := by decide +kernel
theorem dX1_fillCells_48 : decode cX1_fillCells 48 = .ok (.iload_n 3, 1) := by decide +kernel
theorem dX1_fillCells_49 : decode cX1_fillCells 49 = .ok (.imul, 1) := by decide +kernel
theorem dX1_fillCells_50 : decode cX1_fillCells 50 = .ok (.getstatic 67, 3) := by decide +kernel
theorem dX1_fillCells_53 : decode cX1_fillCells 53 = .ok (.iload 6, 2) := by decide +kernel
theorem dX1_fillCells_55 : decode cX1_fillCells 55 = .ok (.iaload, 1) := by decide +kernel
theorem dX1_fillCells_56 : decode cX1_fillCells 56 = .ok (.imul, 1) := by decide +kernel
theorem dX1_fillCells_57 : decode cX1_fillCells 57 = .ok (.istore 8, 2) := by decide +kernel
theorem dX1_fillCells_59 : decode cX1_fillCells 59 = .ok (.iconst 2, 1) := by decide +kernel
theorem dX1_fillCells_60 : decode cX1_fillCells 60 = .ok (.iload 4, 2) := by decide +kernel
theorem dX1_fillCells_62 : decode cX1_fillCells 62 = .ok (.imul, 1) := by decide +kernel
theorem dX1_fillCells_63 : decode cX1_fillCells 63 = .ok (.getstatic 70, 3) := by decide +kernel
theorem dX1_fillCells_66 : decode cX1_fillCells 66 = .ok (.iload 6, 2) := by decide +kernel
theorem dX1_fillCells_68 : decode cX1_fillCells 68 = .ok (.iaload, 1) := by decide +kernel
theorem dX1_fillCells_69 : decode cX1_fillCells 69 = .ok (.imul, 1) := by decide +kernel
theorem dX1_fillCells_70 : decode cX1_fillCells 70 = .ok (.istore 9, 2) := by decide +kernel
theorem dX1_fillCells_72 : decode cX1_fillCells 72 = .ok (.iload_n 3, 1) := by decide +kernel
theorem dX1_fillCells_73 : decode cX1_fillCells 73 = .ok (.getstatic 73, 3) := by decide +kernel
theorem dX1_fillCells_76 : decode cX1_fillCells 76 = .ok (.iload 6, 2) := by decide +kernel
theorem dX1_fillCells_78 : decode cX1_fillCells 78 = .ok (.iaload, 1) := by decide +kernel
theorem dX1_fillCells_79 : decode cX1_fillCells 79 = .ok (.imul, 1) := by decide +kernel
theorem dX1_fillCells_80 : decode cX1_fillCells 80 = .ok (.istore 10, 2) := by decide +kernel
theorem dX1_fillCells_82 : decode cX1_fillCells 82 = .ok (.aload_n 0, 1) := by decide +kernel
theorem dX1_fillCells_83 : decode cX1_fillCells 83 = .ok (.iload 7, 2) := by decide +kernel
theorem dX1_fillCells_85 : decode cX1_fillCells 85 = .ok (.iconst 0, 1) := by decide +kernel
theorem dX1_fillCells_86 : decode cX1_fillCells 86 = .ok (.iconst 2, 1) := by decide +kernel
theorem dX1_fillCells_87 : decode cX1_fillCells 87 = .ok (.iload_n 2, 1) := by decide +kernel
theorem dX1_fillCells_88 : decode cX1_fillCells 88 = .ok (.imul, 1) := by decide +kernel
theorem dX1_fillCells_89 : decode cX1_fillCells 89 = .ok (.iload 8, 2) := by decide +kernel
theorem dX1_fillCells_91 : decode cX1_fillCells 91 = .ok (.iadd, 1) := by decide +kernel
theorem dX1_fillCells_92 : decode cX1_fillCells 92 = .ok (.iload 9, 2) := by decide +kernel
theorem dX1_fillCells_94 : decode cX1_fillCells 94 = .ok (.iadd, 1) := by decide +kernel
theorem dX1_fillCells_95 : decode cX1_fillCells 95 = .ok (.invokevirtual 76, 3) := by decide +kernel
theorem dX1_fillCells_98 : decode cX1_fillCells 98 = .ok (.aload_n 0, 1) := by decide +kernel
theorem dX1_fillCells_99 : decode cX1_fillCells 99 = .ok (.iload 7, 2) := by decide +kernel
theorem dX1_fillCells_101 : decode cX1_fillCells 101 = .ok (.iconst 4, 1) := by decide +kernel
theorem dX1_fillCells_102 : decode cX1_fillCells 102 = .ok (.iconst 2, 1) := by decide +kernel
theorem dX1_fillCells_103 : decode cX1_fillCells 103 = .ok (.iload_n 2, 1) := by decide +kernel
theorem dX1_fillCells_104 : decode cX1_fillCells 104 = .ok (.imul, 1) := by decide +kernel
theorem dX1_fillCells_105 : decode cX1_fillCells 105 = .ok (.iload 8, 2) := by decide +kernel
theorem dX1_fillCells_107 : decode cX1_fillCells 107 = .ok (.isub, 1) := by decide +kernel
theorem dX1_fillCells_108 : decode cX1_fillCells 108 = .ok (.iload 9, 2) := by decide +kernel
theorem dX1_fillCells_110 : decode cX1_fillCells 110 = .ok (.iadd, 1) := by decide +kernel
theorem dX1_fillCells_111 : decode cX1_fillCells 111 = .ok (.invokevirtual 76, 3) := by decide +kernel
theorem dX1_fillCells_114 : decode cX1_fillCells 114 = .ok (.aload_n 0, 1) := by decide +kernel
theorem dX1_fillCells_115 : decode cX1_fillCells 115 = .ok (.iload 7, 2) := by decide +kernel
theorem dX1_fillCells_117 : decode cX1_fillCells 117 = .ok (.iconst 1, 1) := by decide +kernel
theorem dX1_fillCells_118 : decode cX1_fillCells 118 = .ok (.iconst 2, 1) := by decide +kernel
theorem dX1_fillCells_119 : decode cX1_fillCells 119 = .ok (.iload 5, 2) := by decide +kernel
theorem dX1_fillCells_121 : decode cX1_fillCells 121 = .ok (.imul, 1) := by decide +kernel
theorem dX1_fillCells_122 : decode cX1_fillCells 122 = .ok (.iload 9, 2) := by decide +kernel
theorem dX1_fillCells_124 : decode cX1_fillCells 124 = .ok (.isub, 1) := by decide +kernel
theorem dX1_fillCells_125 : decode cX1_fillCells 125 = .ok (.invokevirtual 76, 3) := by decide +kernel
theorem dX1_fillCells_128 : decode cX1_fillCells 128 = .ok (.aload_n 0, 1) := by decide +kernel
theorem dX1_fillCells_129 : decode cX1_fillCells 129 = .ok (.iload 7, 2) := by decide +kernel
theorem dX1_fillCells_131 : decode cX1_fillCells 131 = .ok (.iconst 3, 1) := by decide +kernel
theorem dX1_fillCells_132 : decode cX1_fillCells 132 = .ok (.iconst 2, 1) := by decide +kernel
theorem dX1_fillCells_133 : decode cX1_fillCells 133 = .ok (.iload 5, 2) := by decide +kernel
theorem dX1_fillCells_135 : decode cX1_fillCells 135 = .ok (.imul, 1) := by decide +kernel
theorem dX1_fillCells_136 : decode cX1_fillCells 136 = .ok (.iload 9, 2) := by decide +kernel
theorem dX1_fillCells_138 : decode cX1_fillCells 138 = .ok (.isub, 1) := by decide +kernel
theorem dX1_fillCells_139 : decode cX1_fillCells 139 = .ok (.invokevirtual 76, 3) := by decide +kernel
theorem dX1_fillCells_142 : decode cX1_fillCells 142 = .ok (.aload_n 0, 1) := by decide +kernel
theorem dX1_fillCells_143 : decode cX1_fillCells 143 = .ok (.iload 7, 2) := by decide +kernel
theorem dX1_fillCells_145 : decode cX1_fillCells 145 = .ok (.bipush 8, 2) := by decide +kernel
theorem dX1_fillCells_147 : decode cX1_fillCells 147 = .ok (.iload_n 2, 1) := by decide +kernel
theorem dX1_fillCells_148 : decode cX1_fillCells 148 = .ok (.iload 5, 2) := by decide +kernel
theorem dX1_fillCells_150 : decode cX1_fillCells 150 = .ok (.isub, 1) := by decide +kernel
theorem dX1_fillCells_151 : decode cX1_fillCells 151 = .ok (.iload 9, 2) := by decide +kernel
theorem dX1_fillCells_153 : decode cX1_fillCells 153 = .ok (.isub, 1) := by decide +kernel
theorem dX1_fillCells_154 : decode cX1_fillCells 154 = .ok (.invokevirtual 76, 3) := by decide +kernel
theorem dX1_fillCells_157 : decode cX1_fillCells 157 = .ok (.aload_n 0, 1) := by decide +kernel
theorem dX1_fillCells_158 : decode cX1_fillCells 158 = .ok (.iload 7, 2) := by decide +kernel
theorem dX1_fillCells_160 : decode cX1_fillCells 160 = .ok (.iconst 2, 1) := by decide +kernel
theorem dX1_fillCells_161 : decode cX1_fillCells 161 = .ok (.iload 10, 2) := by decide +kernel
theorem dX1_fillCells_163 : decode cX1_fillCells 163 = .ok (.invokevirtual 76, 3) := by decide +kernel
theorem dX1_fillCells_166 : decode cX1_fillCells 166 = .ok (.aload_n 0, 1) := by decide +kernel
theorem dX1_fillCells_167 : decode cX1_fillCells 167 = .ok (.iload 7, 2) := by decide +kernel
theorem dX1_fillCells_169 : decode cX1_fillCells 169 = .ok (.bipush 6, 2) := by decide +kernel
theorem dX1_fillCells_171 : decode cX1_fillCells 171 = .ok (.iload 10, 2) := by decide +kernel
theorem dX1_fillCells_173 : decode cX1_fillCells 173 = .ok (.invokevirtual 76, 3) := by decide +kernel
theorem dX1_fillCells_176 : decode cX1_fillCells 176 = .ok (.aload_n 0, 1) := by decide +kernel
theorem dX1_fillCells_177 : decode cX1_fillCells 177 = .ok (.iload 7, 2) := by decide +kernel
theorem dX1_fillCells_179 : decode cX1_fillCells 179 = .ok (.iconst 5, 1) := by decide +kernel
theorem dX1_fillCells_180 : decode cX1_fillCells 180 = .ok (.iload 10, 2) := by decide +kernel
theorem dX1_fillCells_182 : decode cX1_fillCells 182 = .ok (.invokevirtual 76, 3) := by decide +kernel
theorem dX1_fillCells_185 : decode cX1_fillCells 185 = .ok (.aload_n 0, 1) := by decide +kernel
theorem dX1_fillCells_186 : decode cX1_fillCells 186 = .ok (.iload 7, 2) := by decide +kernel
theorem dX1_fillCells_188 : decode cX1_fillCells 188 = .ok (.bipush 7, 2) := by decide +kernel
theorem dX1_fillCells_190 : decode cX1_fillCells 190 = .ok (.iload 10, 2) := by decide +kernel
theorem dX1_fillCells_192 : decode cX1_fillCells 192 = .ok (.invokevirtual 76, 3) := by decide +kernel
theorem dX1_fillCells_195 : decode cX1_fillCells 195 = .ok (.iinc 6 1, 3) := by decide +kernel
theorem dX1_fillCells_198 : decode cX1_fillCells 198 = .ok (.goto (-165), 3) := by decide +kernel
theorem dX1_fillCells_201 : decode cX1_fillCells 201 = .ok (.return_, 1) := by decide +kernel
noncomputable def fX1_fillCells_33  : Nat → (Nat → Int32) → Int32 → Int32 → Int32 → Int32 → Int32 → Int32 → Option ((Nat → Int32))
  | 0, _, _, _, _, _, _, _ => none
  | n + 1, t_cells, v1, v2, v3, v4, v5, v6 => (if 4 ≤ v6 then some t_cells else chk 4 v6 (chk 4 v6 (chk 4 v6 ((fX1_setCell t_cells ((v1 * 4) + v6) 0 (((2 * v2) + ((2 * v3) * (stF 2 v6.toNatClampNeg))) + ((2 * v4) * (stF 3 v6.toNatClampNeg)))).bind fun w14 => (fX1_setCell w14 ((v1 * 4) + v6) 4 (((2 * v2) - ((2 * v3) * (stF 2 v6.toNatClampNeg))) + ((2 * v4) * (stF 3 v6.toNatClampNeg)))).bind fun w16 => (fX1_setCell w16 ((v1 * 4) + v6) 1 ((2 * v5) - ((2 * v4) * (stF 3 v6.toNatClampNeg)))).bind fun w18 => (fX1_setCell w18 ((v1 * 4) + v6) 3 ((2 * v5) - ((2 * v4) * (stF 3 v6.toNatClampNeg)))).bind fun w20 => (fX1_setCell w20 ((v1 * 4) + v6) 8 ((v2 - v5) - ((2 * v4) * (stF 3 v6.toNatClampNeg)))).bind fun w22 => (fX1_setCell w22 ((v1 * 4) + v6) 2 (v3 * (stF 4 v6.toNatClampNeg))).bind fun w24 => (fX1_setCell w24 ((v1 * 4) + v6) 6 (v3 * (stF 4 v6.toNatClampNeg))).bind fun w26 => (fX1_setCell w26 ((v1 * 4) + v6) 5 (v3 * (stF 4 v6.toNatClampNeg))).bind fun w28 => (fX1_setCell w28 ((v1 * 4) + v6) 7 (v3 * (stF 4 v6.toNatClampNeg))).bind fun w30 => fX1_fillCells_33 n w30 v1 v2 v3 v4 v5 (v6 + 1)))))
theorem fX1_fillCells_33_z  (t_cells : Nat → Int32) (v1 : Int32) (v2 : Int32) (v3 : Int32) (v4 : Int32) (v5 : Int32) (v6 : Int32) : fX1_fillCells_33  0 t_cells v1 v2 v3 v4 v5 v6 = none := rfl
theorem fX1_fillCells_33_s  (n : Nat) (t_cells : Nat → Int32) (v1 : Int32) (v2 : Int32) (v3 : Int32) (v4 : Int32) (v5 : Int32) (v6 : Int32) : fX1_fillCells_33  (n + 1) t_cells v1 v2 v3 v4 v5 v6 = (if 4 ≤ v6 then some t_cells else chk 4 v6 (chk 4 v6 (chk 4 v6 ((fX1_setCell t_cells ((v1 * 4) + v6) 0 (((2 * v2) + ((2 * v3) * (stF 2 v6.toNatClampNeg))) + ((2 * v4) * (stF 3 v6.toNatClampNeg)))).bind fun w14 => (fX1_setCell w14 ((v1 * 4) + v6) 4 (((2 * v2) - ((2 * v3) * (stF 2 v6.toNatClampNeg))) + ((2 * v4) * (stF 3 v6.toNatClampNeg)))).bind fun w16 => (fX1_setCell w16 ((v1 * 4) + v6) 1 ((2 * v5) - ((2 * v4) * (stF 3 v6.toNatClampNeg)))).bind fun w18 => (fX1_setCell w18 ((v1 * 4) + v6) 3 ((2 * v5) - ((2 * v4) * (stF 3 v6.toNatClampNeg)))).bind fun w20 => (fX1_setCell w20 ((v1 * 4) + v6) 8 ((v2 - v5) - ((2 * v4) * (stF 3 v6.toNatClampNeg)))).bind fun w22 => (fX1_setCell w22 ((v1 * 4) + v6) 2 (v3 * (stF 4 v6.toNatClampNeg))).bind fun w24 => (fX1_setCell w24 ((v1 * 4) + v6) 6 (v3 * (stF 4 v6.toNatClampNeg))).bind fun w26 => (fX1_setCell w26 ((v1 * 4) + v6) 5 (v3 * (stF 4 v6.toNatClampNeg))).bind fun w28 => (fX1_setCell w28 ((v1 * 4) + v6) 7 (v3 * (stF 4 v6.toNatClampNeg))).bind fun w30 => fX1_fillCells_33 n w30 v1 v2 v3 v4 v5 (v6 + 1))))) := rfl
noncomputable def fX1_fillCells  (t_numbers : Nat → Int32) (t_cells : Nat → Int32) (v1 : Int32) : Option ((Nat → Int32)) := (fX1_number t_numbers v1 0).bind fun r1 => (fX1_number t_numbers v1 1).bind fun r3 => (fX1_number t_numbers v1 2).bind fun r5 => (fX1_number t_numbers v1 3).bind fun r7 => fX1_fillCells_33 FU t_cells v1 r1 r3 r5 r7 0
set_option maxHeartbeats 4000000 in
set_option maxRecDepth 100000 in
theorem ctX1_fillCells (l : Launch) (g : GT) (sz : Nat) (a_t : Nat → Nat) (t_told : Int32) (t_lines : Int32) (t_kinds : Int32) (t_acts : Int32) (t_numbers : Nat → Int32) (t_cells : Nat → Int32) (v1 : Int32) (o_t_cells : Nat → Int32) (h : fX1_fillCells t_numbers t_cells v1 = some (o_t_cells)) : Met l yX1_fillCells (Cond.code yX1_fillCells cX1_fillCells 11 none :: Tw) ⟨1, 0, 0, 23⟩ (va_Pc [.ref ((a_t 0)), .int v1] (rwB g [((a_t 0), .inr (1, [.ref (a_t 1), .ref (a_t 2), .ref (a_t 3), .ref (a_t 4), .ref (a_t 5), .int t_told, .int t_lines, .int t_kinds, .int t_acts])), ((a_t 1), .inl (g.2.2.1 0, 15, .inl t_numbers)), ((a_t 2), .inl (g.2.2.1 0, 144, .inl t_cells))] sz)) (va_Qv (fun (_ : Nat → Nat) => True) (fun u => rwE g (va_A [((a_t 0), .inr (1, [.ref (a_t 1), .ref (a_t 2), .ref (a_t 3), .ref (a_t 4), .ref (a_t 5), .int t_told, .int t_lines, .int t_kinds, .int t_acts])), ((a_t 1), .inl (g.2.2.1 0, 15, .inl t_numbers)), ((a_t 2), .inl (g.2.2.1 0, 144, .inl t_cells))] sz) [((a_t 0), .inr (1, [.ref (a_t 1), .ref (a_t 2), .ref (a_t 3), .ref (a_t 4), .ref (a_t 5), .int t_told, .int t_lines, .int t_kinds, .int t_acts])), ((a_t 1), .inl (g.2.2.1 0, 15, .inl t_numbers)), ((a_t 2), .inl (g.2.2.1 0, 144, .inl o_t_cells))]) (va_A [((a_t 0), .inr (1, [.ref (a_t 1), .ref (a_t 2), .ref (a_t 3), .ref (a_t 4), .ref (a_t 5), .int t_told, .int t_lines, .int t_kinds, .int t_acts])), ((a_t 1), .inl (g.2.2.1 0, 15, .inl t_numbers)), ((a_t 2), .inl (g.2.2.1 0, 144, .inl t_cells))] sz)) 0 0 (va_A [((a_t 0), .inr (1, [.ref (a_t 1), .ref (a_t 2), .ref (a_t 3), .ref (a_t 4), .ref (a_t 5), .int t_told, .int t_lines, .int t_kinds, .int t_acts])), ((a_t 1), .inl (g.2.2.1 0, 15, .inl t_numbers)), ((a_t 2), .inl (g.2.2.1 0, 144, .inl t_cells))] sz) := by
  refine rw_metv (by decide) (Nat.le_of_ble_eq_true rfl) (lv0 := [(0, .ref ((a_t 0))), (1, .int v1)]) rfl ?_
  intro p e s m args below meth c ls Q A cx hret hG hAb hb0 hA hP hD hl
  have hx := cx.1
  have hb := cx.2.1
  have hG0 := hG
  have hGk : ∀ {H : Heap} {locs : List Loc}, va_S A s.heap H locs → GE g s H := fun hS => hG0.keptS hAb hS
  have hSb : ∀ {H : Heap} {locs : List Loc}, va_S A s.heap H locs → va_S (fun a => g.1 ≤ a) s.heap H locs := fun hS => ⟨hS.1, fun q h1 h2 => hS.2.1 q h1 (fun z => h2 (hAb q z)), fun l hl => hAb _ (hS.2.2 l hl)⟩
  have hS : va_S A s.heap s.heap [] := va_S.rf
  have w33 : ∀ (n : Nat) (t_cells : Nat → Int32) (v1 : Int32) (v2 : Int32) (v3 : Int32) (v4 : Int32) (v5 : Int32) (v6 : Int32) (H : Heap) (locs : List Loc), va_P g.2.1 vwCl [((a_t 0), .inr (1, [.ref (a_t 1), .ref (a_t 2), .ref (a_t 3), .ref (a_t 4), .ref (a_t 5), .int t_told, .int t_lines, .int t_kinds, .int t_acts])), ((a_t 1), .inl (g.2.2.1 0, 15, .inl t_numbers)), ((a_t 2), .inl (g.2.2.1 0, 144, .inl t_cells))] H → va_D A [((a_t 0), .inr (1, [.ref (a_t 1), .ref (a_t 2), .ref (a_t 3), .ref (a_t 4), .ref (a_t 5), .int t_told, .int t_lines, .int t_kinds, .int t_acts])), ((a_t 1), .inl (g.2.2.1 0, 15, .inl t_numbers)), ((a_t 2), .inl (g.2.2.1 0, 144, .inl t_cells))] → va_S A s.heap H locs → ∀ (ls : Array Slot), lv_has ls 11 [(0, .ref ((a_t 0))), (1, .int v1), (2, .int v2), (3, .int v3), (4, .int v4), (5, .int v5), (6, .int v6)] → fX1_fillCells_33  n t_cells v1 v2 v3 v4 v5 v6 = some (o_t_cells) → W p l e ⟨1, 0, 0, 23⟩ s m args below meth c H locs 0 0 Q (F0 m 33 ls []) := by
    intro n
    induction n with
    | zero => intro t_cells v1 v2 v3 v4 v5 v6 H locs hP hD hS ls hl h; cases (fX1_fillCells_33_z  t_cells v1 v2 v3 v4 v5 v6).symm.trans h
    | succ n ih =>
    intro t_cells v1 v2 v3 v4 v5 v6 H locs hP hD hS ls hl h
    have h := (fX1_fillCells_33_s  n t_cells v1 v2 v3 v4 v5 v6).symm.trans h
    have hG := hGk hS
    refine lv_iload hx hb dX1_fillCells_33 (lv_at hl 6 rfl) ?_
    refine lv_iconst (v := 4) hx hb dX1_fillCells_35 (by decide) ?_
    refine lv_icmp_ge (tgt := 201) hx hb dX1_fillCells_36 (by decide) (fun c9 => ?_) (fun c9 => ?_)
    · have h := itp c9 h
      cases h
      exact hret (fun _ => 0) _ _ _ _ dX1_fillCells_201 (hP.sub [0, 1, 2] rfl) (hD.sub [0, 1, 2] (by decide) rfl) hS
    · have h := itn c9 h
      refine lv_iload_n hx hb dX1_fillCells_39 rfl (lv_at hl 1 rfl) ?_
      refine lv_iconst (v := 4) hx hb dX1_fillCells_40 (by decide) ?_
      refine lv_imul hx hb dX1_fillCells_41 ?_
      refine lv_iload hx hb dX1_fillCells_42 (lv_at hl 6 rfl) ?_
      refine lv_iadd hx hb dX1_fillCells_44 ?_
      refine lv_istore (lv' := [(7, .int ((v1 * 4) + v6)), (0, .ref ((a_t 0))), (1, .int v1), (2, .int v2), (3, .int v3), (4, .int v4), (5, .int v5), (6, .int v6)]) hx hb dX1_fillCells_45 hl (by decide) rfl (fun ls hl => ?_)
      refine lv_iconst (v := 2) hx hb dX1_fillCells_47 (by decide) ?_
      refine lv_iload_n hx hb dX1_fillCells_48 rfl (lv_at hl 4 rfl) ?_
      refine lv_imul hx hb dX1_fillCells_49 ?_
      refine xs_get cx hG0 (hSb hS) 2 rfl lf_X1_67 dX1_fillCells_50 ?_
      refine lv_iload hx hb dX1_fillCells_53 (lv_at hl 7 rfl) ?_
      obtain ⟨hi10, h⟩ := chk_out h
      refine xs_ald (v := stF 2 v6.toNatClampNeg) cx hG0 (hSb hS) 2 ⟨rfl, rfl⟩ hi10 rfl dX1_fillCells_55 ?_
      refine lv_imul hx hb dX1_fillCells_56 ?_
      refine lv_istore (lv' := [(8, .int ((2 * v3) * (stF 2 v6.toNatClampNeg))), (7, .int ((v1 * 4) + v6)), (0, .ref ((a_t 0))), (1, .int v1), (2, .int v2), (3, .int v3), (4, .int v4), (5, .int v5), (6, .int v6)]) hx hb dX1_fillCells_57 hl (by decide) rfl (fun ls hl => ?_)
      refine lv_iconst (v := 2) hx hb dX1_fillCells_59 (by decide) ?_
      refine lv_iload hx hb dX1_fillCells_60 (lv_at hl 6 rfl) ?_
      refine lv_imul hx hb dX1_fillCells_62 ?_
      refine xs_get cx hG0 (hSb hS) 3 rfl lf_X1_70 dX1_fillCells_63 ?_
      refine lv_iload hx hb dX1_fillCells_66 (lv_at hl 8 rfl) ?_
      obtain ⟨hi11, h⟩ := chk_out h
      refine xs_ald (v := stF 3 v6.toNatClampNeg) cx hG0 (hSb hS) 3 ⟨rfl, rfl⟩ hi11 rfl dX1_fillCells_68 ?_
      refine lv_imul hx hb dX1_fillCells_69 ?_
      refine lv_istore (lv' := [(9, .int ((2 * v4) * (stF 3 v6.toNatClampNeg))), (8, .int ((2 * v3) * (stF 2 v6.toNatClampNeg))), (7, .int ((v1 * 4) + v6)), (0, .ref ((a_t 0))), (1, .int v1), (2, .int v2), (3, .int v3), (4, .int v4), (5, .int v5), (6, .int v6)]) hx hb dX1_fillCells_70 hl (by decide) rfl (fun ls hl => ?_)
      refine lv_iload_n hx hb dX1_fillCells_72 rfl (lv_at hl 6 rfl) ?_
      refine xs_get cx hG0 (hSb hS) 4 rfl lf_X1_73 dX1_fillCells_73 ?_
      refine lv_iload hx hb dX1_fillCells_76 (lv_at hl 9 rfl) ?_
      obtain ⟨hi12, h⟩ := chk_out h
      refine xs_ald (v := stF 4 v6.toNatClampNeg) cx hG0 (hSb hS) 4 ⟨rfl, rfl⟩ hi12 rfl dX1_fillCells_78 ?_
      refine lv_imul hx hb dX1_fillCells_79 ?_
      refine lv_istore (lv' := [(10, .int (v3 * (stF 4 v6.toNatClampNeg))), (9, .int ((2 * v4) * (stF 3 v6.toNatClampNeg))), (8, .int ((2 * v3) * (stF 2 v6.toNatClampNeg))), (7, .int ((v1 * 4) + v6)), (0, .ref ((a_t 0))), (1, .int v1), (2, .int v2), (3, .int v3), (4, .int v4), (5, .int v5), (6, .int v6)]) hx hb dX1_fillCells_80 hl (by decide) rfl (fun ls hl => ?_)
      refine lv_aload_n hx hb dX1_fillCells_82 rfl (lv_at hl 4 rfl) ?_
      refine lv_iload hx hb dX1_fillCells_83 (lv_at hl 3 rfl) ?_
      refine lv_iconst (v := 0) hx hb dX1_fillCells_85 (by decide) ?_
      refine lv_iconst (v := 2) hx hb dX1_fillCells_86 (by decide) ?_
      refine lv_iload_n hx hb dX1_fillCells_87 rfl (lv_at hl 6 rfl) ?_
      refine lv_imul hx hb dX1_fillCells_88 ?_
      refine lv_iload hx hb dX1_fillCells_89 (lv_at hl 2 rfl) ?_
      refine lv_iadd hx hb dX1_fillCells_91 ?_
      refine lv_iload hx hb dX1_fillCells_92 (lv_at hl 1 rfl) ?_
      refine lv_iadd hx hb dX1_fillCells_94 ?_
      obtain ⟨w14, hr13, h⟩ := bnd h
      refine rw_v (WN := fun u => [((a_t 1), .inl (g.2.2.1 0, 15, .inl t_numbers)), ((a_t 0), .inr (1, [.ref (a_t 1), .ref (a_t 2), .ref (a_t 3), .ref (a_t 4), .ref (a_t 5), .int t_told, .int t_lines, .int t_kinds, .int t_acts])), ((a_t 2), .inl (g.2.2.1 0, 144, .inl w14))]) (wr := [((a_t 1), .inl (g.2.2.1 0, 15, .inl t_numbers))]) (runV (As := [.int ((v1 * 4) + v6), .int (0), .int (((2 * v2) + ((2 * v3) * (stF 2 v6.toNatClampNeg))) + ((2 * v4) * (stF 3 v6.toNatClampNeg)))]) (rest := []) cx hl.1 (ctX1_setCell l g H.size a_t t_told t_lines t_kinds t_acts t_cells ((v1 * 4) + v6) (0) (((2 * v2) + ((2 * v3) * (stF 2 v6.toNatClampNeg))) + ((2 * v4) * (stF 3 v6.toNatClampNeg))) w14 hr13) kmX1_setCell kvX1_setCell lm_X1_76 ⟨rfl, rfl⟩ ⟨Nat.le_of_ble_eq_true rfl, Nat.le_of_ble_eq_true rfl⟩ (rwV (q0 := 0) (ci := 1) hG (hP.sub [0, 2] rfl) (hD.sub [0, 2] (by decide) rfl) hAb hb0 hS hP rfl rfl) rfl rfl (Nat.le_of_ble_eq_true rfl) dX1_fillCells_95 ⟨Nat.le_of_ble_eq_true rfl, Nat.le_of_ble_eq_true rfl⟩) hP hD hS hA [0, 2] [1] rfl rfl (by decide) (by decide) (fun _ => rfl) (fun u H locs hP hD hS => ?_)
      have hG := hGk hS
      refine lv_aload_n hx hb dX1_fillCells_98 rfl (lv_at hl 4 rfl) ?_
      refine lv_iload hx hb dX1_fillCells_99 (lv_at hl 3 rfl) ?_
      refine lv_iconst (v := 4) hx hb dX1_fillCells_101 (by decide) ?_
      refine lv_iconst (v := 2) hx hb dX1_fillCells_102 (by decide) ?_
      refine lv_iload_n hx hb dX1_fillCells_103 rfl (lv_at hl 6 rfl) ?_
      refine lv_imul hx hb dX1_fillCells_104 ?_
      refine lv_iload hx hb dX1_fillCells_105 (lv_at hl 2 rfl) ?_
      refine lv_isub hx hb dX1_fillCells_107 ?_
      refine lv_iload hx hb dX1_fillCells_108 (lv_at hl 1 rfl) ?_
      refine lv_iadd hx hb dX1_fillCells_110 ?_
      obtain ⟨w16, hr15, h⟩ := bnd h
      refine rw_v (WN := fun u => [((a_t 1), .inl (g.2.2.1 0, 15, .inl t_numbers)), ((a_t 0), .inr (1, [.ref (a_t 1), .ref (a_t 2), .ref (a_t 3), .ref (a_t 4), .ref (a_t 5), .int t_told, .int t_lines, .int t_kinds, .int t_acts])), ((a_t 2), .inl (g.2.2.1 0, 144, .inl w16))]) (wr := [((a_t 1), .inl (g.2.2.1 0, 15, .inl t_numbers))]) (runV (As := [.int ((v1 * 4) + v6), .int (4), .int (((2 * v2) - ((2 * v3) * (stF 2 v6.toNatClampNeg))) + ((2 * v4) * (stF 3 v6.toNatClampNeg)))]) (rest := []) cx hl.1 (ctX1_setCell l g H.size a_t t_told t_lines t_kinds t_acts w14 ((v1 * 4) + v6) (4) (((2 * v2) - ((2 * v3) * (stF 2 v6.toNatClampNeg))) + ((2 * v4) * (stF 3 v6.toNatClampNeg))) w16 hr15) kmX1_setCell kvX1_setCell lm_X1_76 ⟨rfl, rfl⟩ ⟨Nat.le_of_ble_eq_true rfl, Nat.le_of_ble_eq_true rfl⟩ (rwV (q0 := 1) (ci := 1) hG (hP.sub [1, 2] rfl) (hD.sub [1, 2] (by decide) rfl) hAb hb0 hS hP rfl rfl) rfl rfl (Nat.le_of_ble_eq_true rfl) dX1_fillCells_111 ⟨Nat.le_of_ble_eq_true rfl, Nat.le_of_ble_eq_true rfl⟩) hP hD hS hA [1, 2] [0] rfl rfl (by decide) (by decide) (fun _ => rfl) (fun u H locs hP hD hS => ?_)
      have hG := hGk hS
      refine lv_aload_n hx hb dX1_fillCells_114 rfl (lv_at hl 4 rfl) ?_
      refine lv_iload hx hb dX1_fillCells_115 (lv_at hl 3 rfl) ?_
      refine lv_iconst (v := 1) hx hb dX1_fillCells_117 (by decide) ?_
      refine lv_iconst (v := 2) hx hb dX1_fillCells_118 (by decide) ?_
      refine lv_iload hx hb dX1_fillCells_119 (lv_at hl 9 rfl) ?_
      refine lv_imul hx hb dX1_fillCells_121 ?_
      refine lv_iload hx hb dX1_fillCells_122 (lv_at hl 1 rfl) ?_
      refine lv_isub hx hb dX1_fillCells_124 ?_
      obtain ⟨w18, hr17, h⟩ := bnd h
      refine rw_v (WN := fun u => [((a_t 1), .inl (g.2.2.1 0, 15, .inl t_numbers)), ((a_t 0), .inr (1, [.ref (a_t 1), .ref (a_t 2), .ref (a_t 3), .ref (a_t 4), .ref (a_t 5), .int t_told, .int t_lines, .int t_kinds, .int t_acts])), ((a_t 2), .inl (g.2.2.1 0, 144, .inl w18))]) (wr := [((a_t 1), .inl (g.2.2.1 0, 15, .inl t_numbers))]) (runV (As := [.int ((v1 * 4) + v6), .int (1), .int ((2 * v5) - ((2 * v4) * (stF 3 v6.toNatClampNeg)))]) (rest := []) cx hl.1 (ctX1_setCell l g H.size a_t t_told t_lines t_kinds t_acts w16 ((v1 * 4) + v6) (1) ((2 * v5) - ((2 * v4) * (stF 3 v6.toNatClampNeg))) w18 hr17) kmX1_setCell kvX1_setCell lm_X1_76 ⟨rfl, rfl⟩ ⟨Nat.le_of_ble_eq_true rfl, Nat.le_of_ble_eq_true rfl⟩ (rwV (q0 := 1) (ci := 1) hG (hP.sub [1, 2] rfl) (hD.sub [1, 2] (by decide) rfl) hAb hb0 hS hP rfl rfl) rfl rfl (Nat.le_of_ble_eq_true rfl) dX1_fillCells_125 ⟨Nat.le_of_ble_eq_true rfl, Nat.le_of_ble_eq_true rfl⟩) hP hD hS hA [1, 2] [0] rfl rfl (by decide) (by decide) (fun _ => rfl) (fun u H locs hP hD hS => ?_)
      have hG := hGk hS
      refine lv_aload_n hx hb dX1_fillCells_128 rfl (lv_at hl 4 rfl) ?_
      refine lv_iload hx hb dX1_fillCells_129 (lv_at hl 3 rfl) ?_
      refine lv_iconst (v := 3) hx hb dX1_fillCells_131 (by decide) ?_
      refine lv_iconst (v := 2) hx hb dX1_fillCells_132 (by decide) ?_
      refine lv_iload hx hb dX1_fillCells_133 (lv_at hl 9 rfl) ?_
      refine lv_imul hx hb dX1_fillCells_135 ?_
      refine lv_iload hx hb dX1_fillCells_136 (lv_at hl 1 rfl) ?_
      refine lv_isub hx hb dX1_fillCells_138 ?_
      obtain ⟨w20, hr19, h⟩ := bnd h
      refine rw_v (WN := fun u => [((a_t 1), .inl (g.2.2.1 0, 15, .inl t_numbers)), ((a_t 0), .inr (1, [.ref (a_t 1), .ref (a_t 2), .ref (a_t 3), .ref (a_t 4), .ref (a_t 5), .int t_told, .int t_lines, .int t_kinds, .int t_acts])), ((a_t 2), .inl (g.2.2.1 0, 144, .inl w20))]) (wr := [((a_t 1), .inl (g.2.2.1 0, 15, .inl t_numbers))]) (runV (As := [.int ((v1 * 4) + v6), .int (3), .int ((2 * v5) - ((2 * v4) * (stF 3 v6.toNatClampNeg)))]) (rest := []) cx hl.1 (ctX1_setCell l g H.size a_t t_told t_lines t_kinds t_acts w18 ((v1 * 4) + v6) (3) ((2 * v5) - ((2 * v4) * (stF 3 v6.toNatClampNeg))) w20 hr19) kmX1_setCell kvX1_setCell lm_X1_76 ⟨rfl, rfl⟩ ⟨Nat.le_of_ble_eq_true rfl, Nat.le_of_ble_eq_true rfl⟩ (rwV (q0 := 1) (ci := 1) hG (hP.sub [1, 2] rfl) (hD.sub [1, 2] (by decide) rfl) hAb hb0 hS hP rfl rfl) rfl rfl (Nat.le_of_ble_eq_true rfl) dX1_fillCells_139 ⟨Nat.le_of_ble_eq_true rfl, Nat.le_of_ble_eq_true rfl⟩) hP hD hS hA [1, 2] [0] rfl rfl (by decide) (by decide) (fun _ => rfl) (fun u H locs hP hD hS => ?_)
      have hG := hGk hS
      refine lv_aload_n hx hb dX1_fillCells_142 rfl (lv_at hl 4 rfl) ?_
      refine lv_iload hx hb dX1_fillCells_143 (lv_at hl 3 rfl) ?_
      refine lv_bipush (v := 8) hx hb dX1_fillCells_145 (by decide) ?_
      refine lv_iload_n hx hb dX1_fillCells_147 rfl (lv_at hl 6 rfl) ?_
      refine lv_iload hx hb dX1_fillCells_148 (lv_at hl 9 rfl) ?_
      refine lv_isub hx hb dX1_fillCells_150 ?_
      refine lv_iload hx hb dX1_fillCells_151 (lv_at hl 1 rfl) ?_
      refine lv_isub hx hb dX1_fillCells_153 ?_
      obtain ⟨w22, hr21, h⟩ := bnd h
      refine rw_v (WN := fun u => [((a_t 1), .inl (g.2.2.1 0, 15, .inl t_numbers)), ((a_t 0), .inr (1, [.ref (a_t 1), .ref (a_t 2), .ref (a_t 3), .ref (a_t 4), .ref (a_t 5), .int t_told, .int t_lines, .int t_kinds, .int t_acts])), ((a_t 2), .inl (g.2.2.1 0, 144, .inl w22))]) (wr := [((a_t 1), .inl (g.2.2.1 0, 15, .inl t_numbers))]) (runV (As := [.int ((v1 * 4) + v6), .int (8), .int ((v2 - v5) - ((2 * v4) * (stF 3 v6.toNatClampNeg)))]) (rest := []) cx hl.1 (ctX1_setCell l g H.size a_t t_told t_lines t_kinds t_acts w20 ((v1 * 4) + v6) (8) ((v2 - v5) - ((2 * v4) * (stF 3 v6.toNatClampNeg))) w22 hr21) kmX1_setCell kvX1_setCell lm_X1_76 ⟨rfl, rfl⟩ ⟨Nat.le_of_ble_eq_true rfl, Nat.le_of_ble_eq_true rfl⟩ (rwV (q0 := 1) (ci := 1) hG (hP.sub [1, 2] rfl) (hD.sub [1, 2] (by decide) rfl) hAb hb0 hS hP rfl rfl) rfl rfl (Nat.le_of_ble_eq_true rfl) dX1_fillCells_154 ⟨Nat.le_of_ble_eq_true rfl, Nat.le_of_ble_eq_true rfl⟩) hP hD hS hA [1, 2] [0] rfl rfl (by decide) (by decide) (fun _ => rfl) (fun u H locs hP hD hS => ?_)
      have hG := hGk hS
      refine lv_aload_n hx hb dX1_fillCells_157 rfl (lv_at hl 4 rfl) ?_
      refine lv_iload hx hb dX1_fillCells_158 (lv_at hl 3 rfl) ?_
      refine lv_iconst (v := 2) hx hb dX1_fillCells_160 (by decide) ?_
      refine lv_iload hx hb dX1_fillCells_161 (lv_at hl 0 rfl) ?_
      obtain ⟨w24, hr23, h⟩ := bnd h
      refine rw_v (WN := fun u => [((a_t 1), .inl (g.2.2.1 0, 15, .inl t_numbers)), ((a_t 0), .inr (1, [.ref (a_t 1), .ref (a_t 2), .ref (a_t 3), .ref (a_t 4), .ref (a_t 5), .int t_told, .int t_lines, .int t_kinds, .int t_acts])), ((a_t 2), .inl (g.2.2.1 0, 144, .inl w24))]) (wr := [((a_t 1), .inl (g.2.2.1 0, 15, .inl t_numbers))]) (runV (As := [.int ((v1 * 4) + v6), .int (2), .int (v3 * (stF 4 v6.toNatClampNeg))]) (rest := []) cx hl.1 (ctX1_setCell l g H.size a_t t_told t_lines t_kinds t_acts w22 ((v1 * 4) + v6) (2) (v3 * (stF 4 v6.toNatClampNeg)) w24 hr23) kmX1_setCell kvX1_setCell lm_X1_76 ⟨rfl, rfl⟩ ⟨Nat.le_of_ble_eq_true rfl, Nat.le_of_ble_eq_true rfl⟩ (rwV (q0 := 1) (ci := 1) hG (hP.sub [1, 2] rfl) (hD.sub [1, 2] (by decide) rfl) hAb hb0 hS hP rfl rfl) rfl rfl (Nat.le_of_ble_eq_true rfl) dX1_fillCells_163 ⟨Nat.le_of_ble_eq_true rfl, Nat.le_of_ble_eq_true rfl⟩) hP hD hS hA [1, 2] [0] rfl rfl (by decide) (by decide) (fun _ => rfl) (fun u H locs hP hD hS => ?_)
      have hG := hGk hS
      refine lv_aload_n hx hb dX1_fillCells_166 rfl (lv_at hl 4 rfl) ?_
      refine lv_iload hx hb dX1_fillCells_167 (lv_at hl 3 rfl) ?_
      refine lv_bipush (v := 6) hx hb dX1_fillCells_169 (by decide) ?_
      refine lv_iload hx hb dX1_fillCells_171 (lv_at hl 0 rfl) ?_
      obtain ⟨w26, hr25, h⟩ := bnd h
      refine rw_v (WN := fun u => [((a_t 1), .inl (g.2.2.1 0, 15, .inl t_numbers)), ((a_t 0), .inr (1, [.ref (a_t 1), .ref (a_t 2), .ref (a_t 3), .ref (a_t 4), .ref (a_t 5), .int t_told, .int t_lines, .int t_kinds, .int t_acts])), ((a_t 2), .inl (g.2.2.1 0, 144, .inl w26))]) (wr := [((a_t 1), .inl (g.2.2.1 0, 15, .inl t_numbers))]) (runV (As := [.int ((v1 * 4) + v6), .int (6), .int (v3 * (stF 4 v6.toNatClampNeg))]) (rest := []) cx hl.1 (ctX1_setCell l g H.size a_t t_told t_lines t_kinds t_acts w24 ((v1 * 4) + v6) (6) (v3 * (stF 4 v6.toNatClampNeg)) w26 hr25) kmX1_setCell kvX1_setCell lm_X1_76 ⟨rfl, rfl⟩ ⟨Nat.le_of_ble_eq_true rfl, Nat.le_of_ble_eq_true rfl⟩ (rwV (q0 := 1) (ci := 1) hG (hP.sub [1, 2] rfl) (hD.sub [1, 2] (by decide) rfl) hAb hb0 hS hP rfl rfl) rfl rfl (Nat.le_of_ble_eq_true rfl) dX1_fillCells_173 ⟨Nat.le_of_ble_eq_true rfl, Nat.le_of_ble_eq_true rfl⟩) hP hD hS hA [1, 2] [0] rfl rfl (by decide) (by decide) (fun _ => rfl) (fun u H locs hP hD hS => ?_)
      have hG := hGk hS
      refine lv_aload_n hx hb dX1_fillCells_176 rfl (lv_at hl 4 rfl) ?_
      refine lv_iload hx hb dX1_fillCells_177 (lv_at hl 3 rfl) ?_
      refine lv_iconst (v := 5) hx hb dX1_fillCells_179 (by decide) ?_
      refine lv_iload hx hb dX1_fillCells_180 (lv_at hl 0 rfl) ?_
      obtain ⟨w28, hr27, h⟩ := bnd h
      refine rw_v (WN := fun u => [((a_t 1), .inl (g.2.2.1 0, 15, .inl t_numbers)), ((a_t 0), .inr (1, [.ref (a_t 1), .ref (a_t 2), .ref (a_t 3), .ref (a_t 4), .ref (a_t 5), .int t_told, .int t_lines, .int t_kinds, .int t_acts])), ((a_t 2), .inl (g.2.2.1 0, 144, .inl w28))]) (wr := [((a_t 1), .inl (g.2.2.1 0, 15, .inl t_numbers))]) (runV (As := [.int ((v1 * 4) + v6), .int (5), .int (v3 * (stF 4 v6.toNatClampNeg))]) (rest := []) cx hl.1 (ctX1_setCell l g H.size a_t t_told t_lines t_kinds t_acts w26 ((v1 * 4) + v6) (5) (v3 * (stF 4 v6.toNatClampNeg)) w28 hr27) kmX1_setCell kvX1_setCell lm_X1_76 ⟨rfl, rfl⟩ ⟨Nat.le_of_ble_eq_true rfl, Nat.le_of_ble_eq_true rfl⟩ (rwV (q0 := 1) (ci := 1) hG (hP.sub [1, 2] rfl) (hD.sub [1, 2] (by decide) rfl) hAb hb0 hS hP rfl rfl) rfl rfl (Nat.le_of_ble_eq_true rfl) dX1_fillCells_182 ⟨Nat.le_of_ble_eq_true rfl, Nat.le_of_ble_eq_true rfl⟩) hP hD hS hA [1, 2] [0] rfl rfl (by decide) (by decide) (fun _ => rfl) (fun u H locs hP hD hS => ?_)
      have hG := hGk hS
      refine lv_aload_n hx hb dX1_fillCells_185 rfl (lv_at hl 4 rfl) ?_
      refine lv_iload hx hb dX1_fillCells_186 (lv_at hl 3 rfl) ?_
      refine lv_bipush (v := 7) hx hb dX1_fillCells_188 (by decide) ?_
      refine lv_iload hx hb dX1_fillCells_190 (lv_at hl 0 rfl) ?_
      obtain ⟨w30, hr29, h⟩ := bnd h
      refine rw_v (WN := fun u => [((a_t 1), .inl (g.2.2.1 0, 15, .inl t_numbers)), ((a_t 0), .inr (1, [.ref (a_t 1), .ref (a_t 2), .ref (a_t 3), .ref (a_t 4), .ref (a_t 5), .int t_told, .int t_lines, .int t_kinds, .int t_acts])), ((a_t 2), .inl (g.2.2.1 0, 144, .inl w30))]) (wr := [((a_t 1), .inl (g.2.2.1 0, 15, .inl t_numbers))]) (runV (As := [.int ((v1 * 4) + v6), .int (7), .int (v3 * (stF 4 v6.toNatClampNeg))]) (rest := []) cx hl.1 (ctX1_setCell l g H.size a_t t_told t_lines t_kinds t_acts w28 ((v1 * 4) + v6) (7) (v3 * (stF 4 v6.toNatClampNeg)) w30 hr29) kmX1_setCell kvX1_setCell lm_X1_76 ⟨rfl, rfl⟩ ⟨Nat.le_of_ble_eq_true rfl, Nat.le_of_ble_eq_true rfl⟩ (rwV (q0 := 1) (ci := 1) hG (hP.sub [1, 2] rfl) (hD.sub [1, 2] (by decide) rfl) hAb hb0 hS hP rfl rfl) rfl rfl (Nat.le_of_ble_eq_true rfl) dX1_fillCells_192 ⟨Nat.le_of_ble_eq_true rfl, Nat.le_of_ble_eq_true rfl⟩) hP hD hS hA [1, 2] [0] rfl rfl (by decide) (by decide) (fun _ => rfl) (fun u H locs hP hD hS => ?_)
      have hG := hGk hS
      refine lv_iinc (v := v6 + 1) (lv' := [(6, .int (v6 + 1)), (10, .int (v3 * (stF 4 v6.toNatClampNeg))), (9, .int ((2 * v4) * (stF 3 v6.toNatClampNeg))), (8, .int ((2 * v3) * (stF 2 v6.toNatClampNeg))), (7, .int ((v1 * 4) + v6)), (0, .ref ((a_t 0))), (1, .int v1), (2, .int v2), (3, .int v3), (4, .int v4), (5, .int v5)]) hx hb dX1_fillCells_195 hl (k := 10) rfl rfl (by decide) rfl (fun ls hl => ?_)
      refine lv_goto (tgt := 33) hx hb dX1_fillCells_198 (by decide) ?_
      exact ih w30 v1 v2 v3 v4 v5 (v6 + 1) _ _ (hP.sub [1, 0, 2] rfl) (hD.sub [1, 0, 2] (by decide) rfl) hS _ (lv_sub hl [5, 6, 7, 8, 9, 10, 0] rfl) h
  unfold fX1_fillCells at h
  refine lv_aload_n hx hb dX1_fillCells_0 rfl (lv_at hl 0 rfl) ?_
  refine lv_iload_n hx hb dX1_fillCells_1 rfl (lv_at hl 1 rfl) ?_
  refine lv_iconst (v := 0) hx hb dX1_fillCells_2 (by decide) ?_
  obtain ⟨r1, hr2, h⟩ := bnd h
  refine ro_i (runV (As := [.int v1, .int (0)]) (rest := []) cx hl.1 (ctX1_number l g a_t t_told t_lines t_kinds t_acts t_numbers v1 (0) r1 hr2) kmX1_number kvX1_number lm_X1_64 ⟨rfl, rfl⟩ ⟨Nat.le_of_ble_eq_true rfl, Nat.le_of_ble_eq_true rfl⟩ (roV (q0 := 0) (ci := 1) hG (hP.sub [0, 1] rfl) hP rfl rfl) rfl rfl (Nat.le_of_ble_eq_true rfl) dX1_fillCells_3 ⟨Nat.le_of_ble_eq_true rfl, Nat.le_of_ble_eq_true rfl⟩) ?_
  refine lv_istore_n (lv' := [(2, .int r1), (0, .ref ((a_t 0))), (1, .int v1)]) hx hb dX1_fillCells_6 rfl hl (by decide) rfl (fun ls hl => ?_)
  refine lv_aload_n hx hb dX1_fillCells_7 rfl (lv_at hl 1 rfl) ?_
  refine lv_iload_n hx hb dX1_fillCells_8 rfl (lv_at hl 2 rfl) ?_
  refine lv_iconst (v := 1) hx hb dX1_fillCells_9 (by decide) ?_
  obtain ⟨r3, hr4, h⟩ := bnd h
  refine ro_i (runV (As := [.int v1, .int (1)]) (rest := []) cx hl.1 (ctX1_number l g a_t t_told t_lines t_kinds t_acts t_numbers v1 (1) r3 hr4) kmX1_number kvX1_number lm_X1_64 ⟨rfl, rfl⟩ ⟨Nat.le_of_ble_eq_true rfl, Nat.le_of_ble_eq_true rfl⟩ (roV (q0 := 0) (ci := 1) hG (hP.sub [0, 1] rfl) hP rfl rfl) rfl rfl (Nat.le_of_ble_eq_true rfl) dX1_fillCells_10 ⟨Nat.le_of_ble_eq_true rfl, Nat.le_of_ble_eq_true rfl⟩) ?_
  refine lv_istore_n (lv' := [(3, .int r3), (2, .int r1), (0, .ref ((a_t 0))), (1, .int v1)]) hx hb dX1_fillCells_13 rfl hl (by decide) rfl (fun ls hl => ?_)
  refine lv_aload_n hx hb dX1_fillCells_14 rfl (lv_at hl 2 rfl) ?_
  refine lv_iload_n hx hb dX1_fillCells_15 rfl (lv_at hl 3 rfl) ?_
  refine lv_iconst (v := 2) hx hb dX1_fillCells_16 (by decide) ?_
  obtain ⟨r5, hr6, h⟩ := bnd h
  refine ro_i (runV (As := [.int v1, .int (2)]) (rest := []) cx hl.1 (ctX1_number l g a_t t_told t_lines t_kinds t_acts t_numbers v1 (2) r5 hr6) kmX1_number kvX1_number lm_X1_64 ⟨rfl, rfl⟩ ⟨Nat.le_of_ble_eq_true rfl, Nat.le_of_ble_eq_true rfl⟩ (roV (q0 := 0) (ci := 1) hG (hP.sub [0, 1] rfl) hP rfl rfl) rfl rfl (Nat.le_of_ble_eq_true rfl) dX1_fillCells_17 ⟨Nat.le_of_ble_eq_true rfl, Nat.le_of_ble_eq_true rfl⟩) ?_
  refine lv_istore (lv' := [(4, .int r5), (3, .int r3), (2, .int r1), (0, .ref ((a_t 0))), (1, .int v1)]) hx hb dX1_fillCells_20 hl (by decide) rfl (fun ls hl => ?_)
  refine lv_aload_n hx hb dX1_fillCells_22 rfl (lv_at hl 3 rfl) ?_
  refine lv_iload_n hx hb dX1_fillCells_23 rfl (lv_at hl 4 rfl) ?_
  refine lv_iconst (v := 3) hx hb dX1_fillCells_24 (by decide) ?_
  obtain ⟨r7, hr8, h⟩ := bnd h
  refine ro_i (runV (As := [.int v1, .int (3)]) (rest := []) cx hl.1 (ctX1_number l g a_t t_told t_lines t_kinds t_acts t_numbers v1 (3) r7 hr8) kmX1_number kvX1_number lm_X1_64 ⟨rfl, rfl⟩ ⟨Nat.le_of_ble_eq_true rfl, Nat.le_of_ble_eq_true rfl⟩ (roV (q0 := 0) (ci := 1) hG (hP.sub [0, 1] rfl) hP rfl rfl) rfl rfl (Nat.le_of_ble_eq_true rfl) dX1_fillCells_25 ⟨Nat.le_of_ble_eq_true rfl, Nat.le_of_ble_eq_true rfl⟩) ?_
  refine lv_istore (lv' := [(5, .int r7), (4, .int r5), (3, .int r3), (2, .int r1), (0, .ref ((a_t 0))), (1, .int v1)]) hx hb dX1_fillCells_28 hl (by decide) rfl (fun ls hl => ?_)
  refine lv_iconst (v := 0) hx hb dX1_fillCells_30 (by decide) ?_
  refine lv_istore (lv' := [(6, .int (0)), (5, .int r7), (4, .int r5), (3, .int r3), (2, .int r1), (0, .ref ((a_t 0))), (1, .int v1)]) hx hb dX1_fillCells_31 hl (by decide) rfl (fun ls hl => ?_)
  exact w33 FU t_cells v1 r1 r3 r5 r7 0 _ _ hP hD hS _ (lv_sub hl [5, 6, 4, 3, 2, 1, 0] rfl) h
-- X7_isImage
theorem dX7_isImage_0 : decode cX7_isImage 0 = .ok (.iload_n 0, 1) := by decide +kernel
theorem dX7_isImage_1 : decode cX7_isImage 1 = .ok (.ifCond .lt 12, 3) := by decide +kernel
theorem dX7_isImage_4 : decode cX7_isImage 4 = .ok (.iload_n 0, 1) := by decide +kernel
theorem dX7_isImage_5 : decode cX7_isImage 5 = .ok (.iconst 3, 1) := by decide +kernel
theorem dX7_isImage_6 : decode cX7_isImage 6 = .ok (.if_icmp .ge 7, 3) := by decide +kernel
theorem dX7_isImage_9 : decode cX7_isImage 9 = .ok (.iconst 1, 1) := by decide +kernel
theorem dX7_isImage_10 : decode cX7_isImage 10 = .ok (.goto 4, 3) := by decide +kernel
theorem dX7_isImage_13 : decode cX7_isImage 13 = .ok (.iconst 0, 1) := by decide +kernel
theorem dX7_isImage_14 : decode cX7_isImage 14 = .ok (.ireturn, 1) := by decide +kernel
noncomputable def fX7_isImage  (v0 : Int32) : Int32 := (if v0 < 0 then (0) else (if 3 ≤ v0 then (0) else (1)))
set_option maxHeartbeats 4000000 in
set_option maxRecDepth 100000 in
theorem ctX7_isImage (l : Launch) (g : GT) (v0 : Int32) (o : Int32) (h : fX7_isImage v0 = o) : Met l yX7_isImage (Cond.code yX7_isImage cX7_isImage 1 (some .boolean) :: Tw) ⟨0, 0, 0, 0⟩ (va_Pc [.int v0] (roB g [])) (vp_Si (fun x => x = o ∧ (x = 0 ∨ x = 1))) 0 0 (fun _ => False) := by
  refine ro_metz (by decide) (Nat.le_of_ble_eq_true rfl) (lv0 := [(0, .int v0)]) rfl ?_
  intro p e s m args below meth c ls Q cx hret hG hP hl
  have hx := cx.1
  have hb := cx.2.1
  have hG0 := hG
  unfold fX7_isImage at h
  refine lv_iload_n hx hb dX7_isImage_0 rfl (lv_at hl 0 rfl) ?_
  refine lv_if_lt (tgt := 13) hx hb dX7_isImage_1 (by decide) (fun c1 => ?_) (fun c1 => ?_)
  · have h := itp c1 h
    refine lv_iconst (v := 0) hx hb dX7_isImage_13 (by decide) ?_
    exact hret _ _ _ dX7_isImage_14 (by decide) h
  · have h := itn c1 h
    refine lv_iload_n hx hb dX7_isImage_4 rfl (lv_at hl 0 rfl) ?_
    refine lv_iconst (v := 3) hx hb dX7_isImage_5 (by decide) ?_
    refine lv_icmp_ge (tgt := 13) hx hb dX7_isImage_6 (by decide) (fun c2 => ?_) (fun c2 => ?_)
    · have h := itp c2 h
      refine lv_iconst (v := 0) hx hb dX7_isImage_13 (by decide) ?_
      exact hret _ _ _ dX7_isImage_14 (by decide) h
    · have h := itn c2 h
      refine lv_iconst (v := 1) hx hb dX7_isImage_9 (by decide) ?_
      refine lv_goto (tgt := 14) hx hb dX7_isImage_10 (by decide) ?_
      exact hret _ _ _ dX7_isImage_14 (by decide) h
-- X7_imagesBar
theorem dX7_imagesBar_0 : decode cX7_imagesBar 0 = .ok (.iload_n 1, 1) := by decide +kernel
theorem dX7_imagesBar_1 : decode cX7_imagesBar 1 = .ok (.invokestatic 357, 3) := by decide +kernel
theorem dX7_imagesBar_4 : decode cX7_imagesBar 4 = .ok (.ifCond .eq 10, 3) := by decide +kernel
theorem dX7_imagesBar_7 : decode cX7_imagesBar 7 = .ok (.iload_n 2, 1) := by decide +kernel
theorem dX7_imagesBar_8 : decode cX7_imagesBar 8 = .ok (.invokestatic 357, 3) := by decide +kernel
theorem dX7_imagesBar_11 : decode cX7_imagesBar 11 = .ok (.ifCond .ne 6, 3) := by decide +kernel
theorem dX7_imagesBar_14 : decode cX7_imagesBar 14 = .ok (.bipush (-2), 2) := by decide +kernel
theorem dX7_imagesBar_16 : decode cX7_imagesBar 16 = .ok (.ireturn, 1) := by decide +kernel
theorem dX7_imagesBar_17 : decode cX7_imagesBar 17 = .ok (.aload_n 0, 1) := by decide +kernel
theorem dX7_imagesBar_18 : decode cX7_imagesBar 18 = .ok (.getfield 34, 3) := by decide +kernel
theorem dX7_imagesBar_21 : decode cX7_imagesBar 21 = .ok (.iload_n 1, 1) := by decide +kernel
theorem dX7_imagesBar_22 : decode cX7_imagesBar 22 = .ok (.aaload, 1) := by decide +kernel
theorem dX7_imagesBar_23 : decode cX7_imagesBar 23 = .ok (.getfield 139, 3) := by decide +kernel
theorem dX7_imagesBar_26 : decode cX7_imagesBar 26 = .ok (.ifCond .eq 19, 3) := by decide +kernel
theorem dX7_imagesBar_29 : decode cX7_imagesBar 29 = .ok (.aload_n 0, 1) := by decide +kernel
theorem dX7_imagesBar_30 : decode cX7_imagesBar 30 = .ok (.getfield 34, 3) := by decide +kernel
theorem dX7_imagesBar_33 : decode cX7_imagesBar 33 = .ok (.iload_n 2, 1) := by decide +kernel
theorem dX7_imagesBar_34 : decode cX7_imagesBar 34 = .ok (.aaload, 1) := by decide +kernel
theorem dX7_imagesBar_35 : decode cX7_imagesBar 35 = .ok (.getfield 139, 3) := by decide +kernel
theorem dX7_imagesBar_38 : decode cX7_imagesBar 38 = .ok (.ifCond .eq 7, 3) := by decide +kernel
theorem dX7_imagesBar_41 : decode cX7_imagesBar 41 = .ok (.iconst 0, 1) := by decide +kernel
theorem dX7_imagesBar_42 : decode cX7_imagesBar 42 = .ok (.goto 5, 3) := by decide +kernel
theorem dX7_imagesBar_45 : decode cX7_imagesBar 45 = .ok (.bipush (-6), 2) := by decide +kernel
theorem dX7_imagesBar_47 : decode cX7_imagesBar 47 = .ok (.ireturn, 1) := by decide +kernel
noncomputable def fX7_imagesBar  (t_images_0_told : Int32) (t_images_1_told : Int32) (t_images_2_told : Int32) (v1 : Int32) (v2 : Int32) : Option (Int32) := (if (fX7_isImage v1) = 0 then some (-2) else (if (fX7_isImage v2) = 0 then some (-2) else (if v1 = 0 then (if t_images_0_told = 0 then some (-6) else (if v2 = 0 then (if t_images_0_told = 0 then some (-6) else some (0)) else (if v2 = 1 then (if t_images_1_told = 0 then some (-6) else some (0)) else (if v2 = 2 then (if t_images_2_told = 0 then some (-6) else some (0)) else none)))) else (if v1 = 1 then (if t_images_1_told = 0 then some (-6) else (if v2 = 0 then (if t_images_0_told = 0 then some (-6) else some (0)) else (if v2 = 1 then (if t_images_1_told = 0 then some (-6) else some (0)) else (if v2 = 2 then (if t_images_2_told = 0 then some (-6) else some (0)) else none)))) else (if v1 = 2 then (if t_images_2_told = 0 then some (-6) else (if v2 = 0 then (if t_images_0_told = 0 then some (-6) else some (0)) else (if v2 = 1 then (if t_images_1_told = 0 then some (-6) else some (0)) else (if v2 = 2 then (if t_images_2_told = 0 then some (-6) else some (0)) else none)))) else none)))))
set_option maxHeartbeats 4000000 in
set_option maxRecDepth 100000 in
theorem ctX7_imagesBar (l : Launch) (g : GT) (a_t : Nat → Nat) (a_t_tape : Nat → Nat) (a_t_reader : Nat → Nat) (a_t_now : Nat → Nat) (a_t_choices : Nat → Nat) (a_t_ways : Nat → Nat) (a_t_stress : Nat → Nat) (a_t_images_0 : Nat → Nat) (a_t_images_1 : Nat → Nat) (a_t_images_2 : Nat → Nat) (t_images_0_told : Int32) (t_images_0_lines : Int32) (t_images_0_kinds : Int32) (t_images_0_acts : Int32) (t_images_1_told : Int32) (t_images_1_lines : Int32) (t_images_1_kinds : Int32) (t_images_1_acts : Int32) (t_images_2_told : Int32) (t_images_2_lines : Int32) (t_images_2_kinds : Int32) (t_images_2_acts : Int32) (v1 : Int32) (v2 : Int32) (o : Int32) (h : fX7_imagesBar t_images_0_told t_images_1_told t_images_2_told v1 v2 = some o) : Met l yX7_imagesBar (Cond.code yX7_imagesBar cX7_imagesBar 3 (some .int) :: Tw) ⟨1, 0, 0, 20⟩ (va_Pc [.ref ((a_t 0)), .int v1, .int v2] (roB g [((a_t 0), .inr (6, [.ref (a_t_tape 0), .ref (a_t_reader 0), .ref (a_t_now 0), .ref (a_t 4), .ref (a_t_choices 0), .ref (a_t_ways 0), .ref (a_t_stress 0)])), ((a_t 4), .inl (g.2.2.1 4, 3, .inr (.inr (.inr (.inr (iF (a_t_images_0 0) (a_t_images_1 0) (a_t_images_2 0))))))), ((a_t_images_0 0), .inr (1, [.ref (a_t_images_0 1), .ref (a_t_images_0 2), .ref (a_t_images_0 3), .ref (a_t_images_0 4), .ref (a_t_images_0 5), .int t_images_0_told, .int t_images_0_lines, .int t_images_0_kinds, .int t_images_0_acts])), ((a_t_images_1 0), .inr (1, [.ref (a_t_images_1 1), .ref (a_t_images_1 2), .ref (a_t_images_1 3), .ref (a_t_images_1 4), .ref (a_t_images_1 5), .int t_images_1_told, .int t_images_1_lines, .int t_images_1_kinds, .int t_images_1_acts])), ((a_t_images_2 0), .inr (1, [.ref (a_t_images_2 1), .ref (a_t_images_2 2), .ref (a_t_images_2 3), .ref (a_t_images_2 4), .ref (a_t_images_2 5), .int t_images_2_told, .int t_images_2_lines, .int t_images_2_kinds, .int t_images_2_acts]))])) (vp_Si (fun x => x = o)) 0 0 (fun _ => False) := by
  refine ro_meti (by decide) (Nat.le_of_ble_eq_true rfl) (lv0 := [(0, .ref ((a_t 0))), (1, .int v1), (2, .int v2)]) rfl ?_
  intro p e s m args below meth c ls Q cx hret hG hP hl
  have hx := cx.1
  have hb := cx.2.1
  have hG0 := hG
  unfold fX7_imagesBar at h
  refine lv_iload_n hx hb dX7_imagesBar_0 rfl (lv_at hl 1 rfl) ?_
  refine ro_z (runS (As := [.int v1]) (rest := []) cx hl.1 (ctX7_isImage l g v1 (fX7_isImage v1) rfl) kmX7_isImage ksX7_isImage lm_X7_357 ⟨rfl, rfl⟩ ⟨Nat.le_of_ble_eq_true rfl, Nat.le_of_ble_eq_true rfl⟩ (roS hG (hP.sub [] rfl)) rfl rfl (Nat.le_of_ble_eq_true rfl) dX7_imagesBar_1 ⟨Nat.le_of_ble_eq_true rfl, Nat.le_of_ble_eq_true rfl⟩) (fun hz1 => ?_)
  refine lv_if_eq (tgt := 14) hx hb dX7_imagesBar_4 (by decide) (fun c2 => ?_) (fun c2 => ?_)
  · have h := itp c2 h
    refine lv_bipush (v := -2) hx hb dX7_imagesBar_14 (by decide) ?_
    exact hret _ _ _ dX7_imagesBar_16 (Option.some.inj h)
  · have h := itn c2 h
    refine lv_iload_n hx hb dX7_imagesBar_7 rfl (lv_at hl 2 rfl) ?_
    refine ro_z (runS (As := [.int v2]) (rest := []) cx hl.1 (ctX7_isImage l g v2 (fX7_isImage v2) rfl) kmX7_isImage ksX7_isImage lm_X7_357 ⟨rfl, rfl⟩ ⟨Nat.le_of_ble_eq_true rfl, Nat.le_of_ble_eq_true rfl⟩ (roS hG (hP.sub [] rfl)) rfl rfl (Nat.le_of_ble_eq_true rfl) dX7_imagesBar_8 ⟨Nat.le_of_ble_eq_true rfl, Nat.le_of_ble_eq_true rfl⟩) (fun hz3 => ?_)
    refine lv_if_ne (tgt := 17) hx hb dX7_imagesBar_11 (by decide) (fun c4 => ?_) (fun c4 => ?_)
    · have h := itn c4 h
      refine lv_aload_n hx hb dX7_imagesBar_17 rfl (lv_at hl 0 rfl) ?_
      refine xa_get (C := RX7) (T := TX7) (N := 7) cx hG hP 0 rfl rfl uX7 3 (by decide) lf_X7_34 rfl dX7_imagesBar_18 ?_
      refine lv_iload_n hx hb dX7_imagesBar_21 rfl (lv_at hl 1 rfl) ?_
      by_cases e5 : v1 = 0
      · have h := itp e5 h
        refine xa_ald3 (k := 0) cx hG hP 1 rfl (by rw [e5]; decide) rfl dX7_imagesBar_22 ?_
        refine xa_getN (C := RX1) (T := TX1) (N := 9) cx hG hP 2 rfl rfl uX1 5 (by decide) nf_5 rfl dX7_imagesBar_23 ?_
        refine lv_if_eq (tgt := 45) hx hb dX7_imagesBar_26 (by decide) (fun c6 => ?_) (fun c6 => ?_)
        · have h := itp c6 h
          refine lv_bipush (v := -6) hx hb dX7_imagesBar_45 (by decide) ?_
          exact hret _ _ _ dX7_imagesBar_47 (Option.some.inj h)
        · have h := itn c6 h
          refine lv_aload_n hx hb dX7_imagesBar_29 rfl (lv_at hl 0 rfl) ?_
          refine xa_get (C := RX7) (T := TX7) (N := 7) cx hG hP 0 rfl rfl uX7 3 (by decide) lf_X7_34 rfl dX7_imagesBar_30 ?_
          refine lv_iload_n hx hb dX7_imagesBar_33 rfl (lv_at hl 2 rfl) ?_
          by_cases e7 : v2 = 0
          · have h := itp e7 h
            refine xa_ald3 (k := 0) cx hG hP 1 rfl (by rw [e7]; decide) rfl dX7_imagesBar_34 ?_
            refine xa_getN (C := RX1) (T := TX1) (N := 9) cx hG hP 2 rfl rfl uX1 5 (by decide) nf_5 rfl dX7_imagesBar_35 ?_
            refine lv_if_eq (tgt := 45) hx hb dX7_imagesBar_38 (by decide) (fun c8 => ?_) (fun c8 => ?_)
            · have h := itp c8 h
              refine lv_bipush (v := -6) hx hb dX7_imagesBar_45 (by decide) ?_
              exact hret _ _ _ dX7_imagesBar_47 (Option.some.inj h)
            · have h := itn c8 h
              refine lv_iconst (v := 0) hx hb dX7_imagesBar_41 (by decide) ?_
              refine lv_goto (tgt := 47) hx hb dX7_imagesBar_42 (by decide) ?_
              exact hret _ _ _ dX7_imagesBar_47 (Option.some.inj h)
          · have h := itn e7 h
            by_cases e9 : v2 = 1
            · have h := itp e9 h
              refine xa_ald3 (k := 1) cx hG hP 1 rfl (by rw [e9]; decide) rfl dX7_imagesBar_34 ?_
              refine xa_getN (C := RX1) (T := TX1) (N := 9) cx hG hP 3 rfl rfl uX1 5 (by decide) nf_5 rfl dX7_imagesBar_35 ?_
              refine lv_if_eq (tgt := 45) hx hb dX7_imagesBar_38 (by decide) (fun c10 => ?_) (fun c10 => ?_)
              · have h := itp c10 h
                refine lv_bipush (v := -6) hx hb dX7_imagesBar_45 (by decide) ?_
                exact hret _ _ _ dX7_imagesBar_47 (Option.some.inj h)
              · have h := itn c10 h
                refine lv_iconst (v := 0) hx hb dX7_imagesBar_41 (by decide) ?_
                refine lv_goto (tgt := 47) hx hb dX7_imagesBar_42 (by decide) ?_
                exact hret _ _ _ dX7_imagesBar_47 (Option.some.inj h)
            · have h := itn e9 h
              by_cases e11 : v2 = 2
              · have h := itp e11 h
                refine xa_ald3 (k := 2) cx hG hP 1 rfl (by rw [e11]; decide) rfl dX7_imagesBar_34 ?_
                refine xa_getN (C := RX1) (T := TX1) (N := 9) cx hG hP 4 rfl rfl uX1 5 (by decide) nf_5 rfl dX7_imagesBar_35 ?_
                refine lv_if_eq (tgt := 45) hx hb dX7_imagesBar_38 (by decide) (fun c12 => ?_) (fun c12 => ?_)
                · have h := itp c12 h
                  refine lv_bipush (v := -6) hx hb dX7_imagesBar_45 (by decide) ?_
                  exact hret _ _ _ dX7_imagesBar_47 (Option.some.inj h)
                · have h := itn c12 h
                  refine lv_iconst (v := 0) hx hb dX7_imagesBar_41 (by decide) ?_
                  refine lv_goto (tgt := 47) hx hb dX7_imagesBar_42 (by decide) ?_
                  exact hret _ _ _ dX7_imagesBar_47 (Option.some.inj h)
              · have h := itn e11 h
                cases h
      · have h := itn e5 h
        by_cases e13 : v1 = 1
        · have h := itp e13 h
          refine xa_ald3 (k := 1) cx hG hP 1 rfl (by rw [e13]; decide) rfl dX7_imagesBar_22 ?_
          refine xa_getN (C := RX1) (T := TX1) (N := 9) cx hG hP 3 rfl rfl uX1 5 (by decide) nf_5 rfl dX7_imagesBar_23 ?_
          refine lv_if_eq (tgt := 45) hx hb dX7_imagesBar_26 (by decide) (fun c14 => ?_) (fun c14 => ?_)
          · have h := itp c14 h
            refine lv_bipush (v := -6) hx hb dX7_imagesBar_45 (by decide) ?_
            exact hret _ _ _ dX7_imagesBar_47 (Option.some.inj h)
          · have h := itn c14 h
            refine lv_aload_n hx hb dX7_imagesBar_29 rfl (lv_at hl 0 rfl) ?_
            refine xa_get (C := RX7) (T := TX7) (N := 7) cx hG hP 0 rfl rfl uX7 3 (by decide) lf_X7_34 rfl dX7_imagesBar_30 ?_
            refine lv_iload_n hx hb dX7_imagesBar_33 rfl (lv_at hl 2 rfl) ?_
            by_cases e15 : v2 = 0
            · have h := itp e15 h
              refine xa_ald3 (k := 0) cx hG hP 1 rfl (by rw [e15]; decide) rfl dX7_imagesBar_34 ?_
              refine xa_getN (C := RX1) (T := TX1) (N := 9) cx hG hP 2 rfl rfl uX1 5 (by decide) nf_5 rfl dX7_imagesBar_35 ?_
              refine lv_if_eq (tgt := 45) hx hb dX7_imagesBar_38 (by decide) (fun c16 => ?_) (fun c16 => ?_)
              · have h := itp c16 h
                refine lv_bipush (v := -6) hx hb dX7_imagesBar_45 (by decide) ?_
                exact hret _ _ _ dX7_imagesBar_47 (Option.some.inj h)
              · have h := itn c16 h
                refine lv_iconst (v := 0) hx hb dX7_imagesBar_41 (by decide) ?_
                refine lv_goto (tgt := 47) hx hb dX7_imagesBar_42 (by decide) ?_
                exact hret _ _ _ dX7_imagesBar_47 (Option.some.inj h)
            · have h := itn e15 h
              by_cases e17 : v2 = 1
              · have h := itp e17 h
                refine xa_ald3 (k := 1) cx hG hP 1 rfl (by rw [e17]; decide) rfl dX7_imagesBar_34 ?_
                refine xa_getN (C := RX1) (T := TX1) (N := 9) cx hG hP 3 rfl rfl uX1 5 (by decide) nf_5 rfl dX7_imagesBar_35 ?_
                refine lv_if_eq (tgt := 45) hx hb dX7_imagesBar_38 (by decide) (fun c18 => ?_) (fun c18 => ?_)
                · have h := itp c18 h
                  refine lv_bipush (v := -6) hx hb dX7_imagesBar_45 (by decide) ?_
                  exact hret _ _ _ dX7_imagesBar_47 (Option.some.inj h)
                · have h := itn c18 h
                  refine lv_iconst (v := 0) hx hb dX7_imagesBar_41 (by decide) ?_
                  refine lv_goto (tgt := 47) hx hb dX7_imagesBar_42 (by decide) ?_
                  exact hret _ _ _ dX7_imagesBar_47 (Option.some.inj h)
              · have h := itn e17 h
                by_cases e19 : v2 = 2
                · have h := itp e19 h
                  refine xa_ald3 (k := 2) cx hG hP 1 rfl (by rw [e19]; decide) rfl dX7_imagesBar_34 ?_
                  refine xa_getN (C := RX1) (T := TX1) (N := 9) cx hG hP 4 rfl rfl uX1 5 (by decide) nf_5 rfl dX7_imagesBar_35 ?_
                  refine lv_if_eq (tgt := 45) hx hb dX7_imagesBar_38 (by decide) (fun c20 => ?_) (fun c20 => ?_)
                  · have h := itp c20 h
                    refine lv_bipush (v := -6) hx hb dX7_imagesBar_45 (by decide) ?_
                    exact hret _ _ _ dX7_imagesBar_47 (Option.some.inj h)
                  · have h := itn c20 h
                    refine lv_iconst (v := 0) hx hb dX7_imagesBar_41 (by decide) ?_
                    refine lv_goto (tgt := 47) hx hb dX7_imagesBar_42 (by decide) ?_
                    exact hret _ _ _ dX7_imagesBar_47 (Option.some.inj h)
                · have h := itn e19 h
                  cases h
        · have h := itn e13 h
          by_cases e21 : v1 = 2
          · have h := itp e21 h
            refine xa_ald3 (k := 2) cx hG hP 1 rfl (by rw [e21]; decide) rfl dX7_imagesBar_22 ?_
            refine xa_getN (C := RX1) (T := TX1) (N := 9) cx hG hP 4 rfl rfl uX1 5 (by decide) nf_5 rfl dX7_imagesBar_23 ?_
            refine lv_if_eq (tgt := 45) hx hb dX7_imagesBar_26 (by decide) (fun c22 => ?_) (fun c22 => ?_)
            · have h := itp c22 h
              refine lv_bipush (v := -6) hx hb dX7_imagesBar_45 (by decide) ?_
              exact hret _ _ _ dX7_imagesBar_47 (Option.some.inj h)
            · have h := itn c22 h
              refine lv_aload_n hx hb dX7_imagesBar_29 rfl (lv_at hl 0 rfl) ?_
              refine xa_get (C := RX7) (T := TX7) (N := 7) cx hG hP 0 rfl rfl uX7 3 (by decide) lf_X7_34 rfl dX7_imagesBar_30 ?_
              refine lv_iload_n hx hb dX7_imagesBar_33 rfl (lv_at hl 2 rfl) ?_
              by_cases e23 : v2 = 0
              · have h := itp e23 h
                refine xa_ald3 (k := 0) cx hG hP 1 rfl (by rw [e23]; decide) rfl dX7_imagesBar_34 ?_
                refine xa_getN (C := RX1) (T := TX1) (N := 9) cx hG hP 2 rfl rfl uX1 5 (by decide) nf_5 rfl dX7_imagesBar_35 ?_
                refine lv_if_eq (tgt := 45) hx hb dX7_imagesBar_38 (by decide) (fun c24 => ?_) (fun c24 => ?_)
                · have h := itp c24 h
                  refine lv_bipush (v := -6) hx hb dX7_imagesBar_45 (by decide) ?_
                  exact hret _ _ _ dX7_imagesBar_47 (Option.some.inj h)
                · have h := itn c24 h
                  refine lv_iconst (v := 0) hx hb dX7_imagesBar_41 (by decide) ?_
                  refine lv_goto (tgt := 47) hx hb dX7_imagesBar_42 (by decide) ?_
                  exact hret _ _ _ dX7_imagesBar_47 (Option.some.inj h)
              · have h := itn e23 h
                by_cases e25 : v2 = 1
                · have h := itp e25 h
                  refine xa_ald3 (k := 1) cx hG hP 1 rfl (by rw [e25]; decide) rfl dX7_imagesBar_34 ?_
                  refine xa_getN (C := RX1) (T := TX1) (N := 9) cx hG hP 3 rfl rfl uX1 5 (by decide) nf_5 rfl dX7_imagesBar_35 ?_
                  refine lv_if_eq (tgt := 45) hx hb dX7_imagesBar_38 (by decide) (fun c26 => ?_) (fun c26 => ?_)
                  · have h := itp c26 h
                    refine lv_bipush (v := -6) hx hb dX7_imagesBar_45 (by decide) ?_
                    exact hret _ _ _ dX7_imagesBar_47 (Option.some.inj h)
                  · have h := itn c26 h
                    refine lv_iconst (v := 0) hx hb dX7_imagesBar_41 (by decide) ?_
                    refine lv_goto (tgt := 47) hx hb dX7_imagesBar_42 (by decide) ?_
                    exact hret _ _ _ dX7_imagesBar_47 (Option.some.inj h)
                · have h := itn e25 h
                  by_cases e27 : v2 = 2
                  · have h := itp e27 h
                    refine xa_ald3 (k := 2) cx hG hP 1 rfl (by rw [e27]; decide) rfl dX7_imagesBar_34 ?_
                    refine xa_getN (C := RX1) (T := TX1) (N := 9) cx hG hP 4 rfl rfl uX1 5 (by decide) nf_5 rfl dX7_imagesBar_35 ?_
                    refine lv_if_eq (tgt := 45) hx hb dX7_imagesBar_38 (by decide) (fun c28 => ?_) (fun c28 => ?_)
                    · have h := itp c28 h
                      refine lv_bipush (v := -6) hx hb dX7_imagesBar_45 (by decide) ?_
                      exact hret _ _ _ dX7_imagesBar_47 (Option.some.inj h)
                    · have h := itn c28 h
                      refine lv_iconst (v := 0) hx hb dX7_imagesBar_41 (by decide) ?_
                      refine lv_goto (tgt := 47) hx hb dX7_imagesBar_42 (by decide) ?_
                      exact hret _ _ _ dX7_imagesBar_47 (Option.some.inj h)
                  · have h := itn e27 h
                    cases h
          · have h := itn e21 h
            cases h
    · have h := itp c4 h
      refine lv_bipush (v := -2) hx hb dX7_imagesBar_14 (by decide) ?_
      exact hret _ _ _ dX7_imagesBar_16 (Option.some.inj h)
-- X3_overturned
theorem dX3_overturned_0 : decode cX3_overturned 0 = .ok (.iconst 0, 1) := by decide +kernel
theorem dX3_overturned_1 : decode cX3_overturned 1 = .ok (.istore_n 2, 1) := by decide +kernel
theorem dX3_overturned_2 : decode cX3_overturned 2 = .ok (.iconst 0, 1) := by decide +kernel
theorem dX3_overturned_3 : decode cX3_overturned 3 = .ok (.istore_n 3, 1) := by decide +kernel
theorem dX3_overturned_4 : decode cX3_overturned 4 = .ok (.iload_n 3, 1) := by decide +kernel
theorem dX3_overturned_5 : decode cX3_overturned 5 = .ok (.iload_n 1, 1) := by decide +kernel
theorem dX3_overturned_6 : decode cX3_overturned 6 = .ok (.if_icmp .ge 41, 3) := by decide +kernel
theorem dX3_overturned_9 : decode cX3_overturned 9 = .ok (.iload_n 0, 1) := by decide +kernel
theorem dX3_overturned_10 : decode cX3_overturned 10 = .ok (.iload_n 1, 1) := by decide +kernel
theorem dX3_overturned_11 : decode cX3_overturned 11 = .ok (.iconst 1, 1) := by decide +kernel
theorem dX3_overturned_12 : decode cX3_overturned 12 = .ok (.isub, 1) := by decide +kernel
theorem dX3_overturned_13 : decode cX3_overturned 13 = .ok (.iload_n 3, 1) := by decide +kernel
theorem dX3_overturned_14 : decode cX3_overturned 14 = .ok (.isub, 1) := by decide +kernel
theorem dX3_overturned_15 : decode cX3_overturned 15 = .ok (.invokestatic 9, 3) := by decide +kernel
theorem dX3_overturned_18 : decode cX3_overturned 18 = .ok (.istore 4, 2) := by decide +kernel
theorem dX3_overturned_20 : decode cX3_overturned 20 = .ok (.iload_n 2, 1) := by decide +kernel
theorem dX3_overturned_21 : decode cX3_overturned 21 = .ok (.iload 4, 2) := by decide +kernel
theorem dX3_overturned_23 : decode cX3_overturned 23 = .ok (.bipush 12, 2) := by decide +kernel
theorem dX3_overturned_25 : decode cX3_overturned 25 = .ok (.iand, 1) := by decide +kernel
theorem dX3_overturned_26 : decode cX3_overturned 26 = .ok (.getstatic 41, 3) := by decide +kernel
theorem dX3_overturned_29 : decode cX3_overturned 29 = .ok (.iload 4, 2) := by decide +kernel
theorem dX3_overturned_31 : decode cX3_overturned 31 = .ok (.iconst 3, 1) := by decide +kernel
theorem dX3_overturned_32 : decode cX3_overturned 32 = .ok (.iand, 1) := by decide +kernel
theorem dX3_overturned_33 : decode cX3_overturned 33 = .ok (.iaload, 1) := by decide +kernel
theorem dX3_overturned_34 : decode cX3_overturned 34 = .ok (.ior, 1) := by decide +kernel
theorem dX3_overturned_35 : decode cX3_overturned 35 = .ok (.iconst 4, 1) := by decide +kernel
theorem dX3_overturned_36 : decode cX3_overturned 36 = .ok (.iload_n 3, 1) := by decide +kernel
theorem dX3_overturned_37 : decode cX3_overturned 37 = .ok (.imul, 1) := by decide +kernel
theorem dX3_overturned_38 : decode cX3_overturned 38 = .ok (.ishl, 1) := by decide +kernel
theorem dX3_overturned_39 : decode cX3_overturned 39 = .ok (.ior, 1) := by decide +kernel
theorem dX3_overturned_40 : decode cX3_overturned 40 = .ok (.istore_n 2, 1) := by decide +kernel
theorem dX3_overturned_41 : decode cX3_overturned 41 = .ok (.iinc 3 1, 3) := by decide +kernel
theorem dX3_overturned_44 : decode cX3_overturned 44 = .ok (.goto (-40), 3) := by decide +kernel
theorem dX3_overturned_47 : decode cX3_overturned 47 = .ok (.iload_n 2, 1) := by decide +kernel
theorem dX3_overturned_48 : decode cX3_overturned 48 = .ok (.ireturn, 1) := by decide +kernel
noncomputable def fX3_overturned_4  : Nat → Int32 → Int32 → Int32 → Int32 → Option (Int32)
  | 0, _, _, _, _ => none
  | n + 1, v0, v1, v2, v3 => (if v1 ≤ v3 then some v2 else chk 4 ((fX3_typeAt v0 ((v1 - 1) - v3)) &&& 3) (fX3_overturned_4 n v0 v1 (v2 ||| ((((fX3_typeAt v0 ((v1 - 1) - v3)) &&& 12) ||| (stF 1 ((fX3_typeAt v0 ((v1 - 1) - v3)) &&& 3).toNatClampNeg)) <<< ((4 * v3) &&& 31))) (v3 + 1)))
theorem fX3_overturned_4_z  (v0 : Int32) (v1 : Int32) (v2 : Int32) (v3 : Int32) : fX3_overturned_4  0 v0 v1 v2 v3 = none := rfl
theorem fX3_overturned_4_s  (n : Nat) (v0 : Int32) (v1 : Int32) (v2 : Int32) (v3 : Int32) : fX3_overturned_4  (n + 1) v0 v1 v2 v3 = (if v1 ≤ v3 then some v2 else chk 4 ((fX3_typeAt v0 ((v1 - 1) - v3)) &&& 3) (fX3_overturned_4 n v0 v1 (v2 ||| ((((fX3_typeAt v0 ((v1 - 1) - v3)) &&& 12) ||| (stF 1 ((fX3_typeAt v0 ((v1 - 1) - v3)) &&& 3).toNatClampNeg)) <<< ((4 * v3) &&& 31))) (v3 + 1))) := rfl
noncomputable def fX3_overturned  (v0 : Int32) (v1 : Int32) : Option (Int32) := fX3_overturned_4 FU v0 v1 0 0
set_option maxHeartbeats 4000000 in
set_option maxRecDepth 100000 in
theorem ctX3_overturned (l : Launch) (g : GT) (v0 : Int32) (v1 : Int32) (o : Int32) (h : fX3_overturned v0 v1 = some o) : Met l yX3_overturned (Cond.code yX3_overturned cX3_overturned 5 (some .int) :: Tw) ⟨1, 0, 0, 21⟩ (va_Pc [.int v0, .int v1] (roB g [])) (vp_Si (fun x => x = o)) 0 0 (fun _ => False) := by
  refine ro_meti (by decide) (Nat.le_of_ble_eq_true rfl) (lv0 := [(0, .int v0), (1, .int v1)]) rfl ?_
  intro p e s m args below meth c ls Q cx hret hG hP hl
  have hx := cx.1
  have hb := cx.2.1
  have hG0 := hG
  have w4 : ∀ (n : Nat) (v0 : Int32) (v1 : Int32) (v2 : Int32) (v3 : Int32) (ls : Array Slot), lv_has ls 5 [(0, .int v0), (1, .int v1), (2, .int v2), (3, .int v3)] → fX3_overturned_4  n v0 v1 v2 v3 = some o → W p l e ⟨1, 0, 0, 21⟩ s m args below meth c s.heap [] 0 0 Q (F0 m 4 ls []) := by
    intro n
    induction n with
    | zero => intro v0 v1 v2 v3 ls hl h; cases (fX3_overturned_4_z  v0 v1 v2 v3).symm.trans h
    | succ n ih =>
    intro v0 v1 v2 v3 ls hl h
    have h := (fX3_overturned_4_s  n v0 v1 v2 v3).symm.trans h
    refine lv_iload_n hx hb dX3_overturned_4 rfl (lv_at hl 3 rfl) ?_
    refine lv_iload_n hx hb dX3_overturned_5 rfl (lv_at hl 1 rfl) ?_
    refine lv_icmp_ge (tgt := 47) hx hb dX3_overturned_6 (by decide) (fun c1 => ?_) (fun c1 => ?_)
    · have h := itp c1 h
      refine lv_iload_n hx hb dX3_overturned_47 rfl (lv_at hl 2 rfl) ?_
      exact hret _ _ _ dX3_overturned_48 (Option.some.inj h)
    · have h := itn c1 h
      refine lv_iload_n hx hb dX3_overturned_9 rfl (lv_at hl 0 rfl) ?_
      refine lv_iload_n hx hb dX3_overturned_10 rfl (lv_at hl 1 rfl) ?_
      refine lv_iconst (v := 1) hx hb dX3_overturned_11 (by decide) ?_
      refine lv_isub hx hb dX3_overturned_12 ?_
      refine lv_iload_n hx hb dX3_overturned_13 rfl (lv_at hl 3 rfl) ?_
      refine lv_isub hx hb dX3_overturned_14 ?_
      refine ro_i (runS (As := [.int v0, .int ((v1 - 1) - v3)]) (rest := []) cx hl.1 (ctX3_typeAt l g v0 ((v1 - 1) - v3) (fX3_typeAt v0 ((v1 - 1) - v3)) rfl) kmX3_typeAt ksX3_typeAt lm_X3_9 ⟨rfl, rfl⟩ ⟨Nat.le_of_ble_eq_true rfl, Nat.le_of_ble_eq_true rfl⟩ (roS hG (hP.sub [] rfl)) rfl rfl (Nat.le_of_ble_eq_true rfl) dX3_overturned_15 ⟨Nat.le_of_ble_eq_true rfl, Nat.le_of_ble_eq_true rfl⟩) ?_
      refine lv_istore (lv' := [(4, .int (fX3_typeAt v0 ((v1 - 1) - v3))), (0, .int v0), (1, .int v1), (2, .int v2), (3, .int v3)]) hx hb dX3_overturned_18 hl (by decide) rfl (fun ls hl => ?_)
      refine lv_iload_n hx hb dX3_overturned_20 rfl (lv_at hl 3 rfl) ?_
      refine lv_iload hx hb dX3_overturned_21 (lv_at hl 0 rfl) ?_
      refine lv_bipush (v := 12) hx hb dX3_overturned_23 (by decide) ?_
      refine lv_iand hx hb dX3_overturned_25 ?_
      refine xs_get cx hG0 va_S.rf 1 rfl lf_X3_41 dX3_overturned_26 ?_
      refine lv_iload hx hb dX3_overturned_29 (lv_at hl 0 rfl) ?_
      refine lv_iconst (v := 3) hx hb dX3_overturned_31 (by decide) ?_
      refine lv_iand hx hb dX3_overturned_32 ?_
      obtain ⟨hi2, h⟩ := chk_out h
      refine xs_ald (v := stF 1 ((fX3_typeAt v0 ((v1 - 1) - v3)) &&& 3).toNatClampNeg) cx hG0 va_S.rf 1 ⟨rfl, rfl⟩ hi2 rfl dX3_overturned_33 ?_
      refine lv_ior hx hb dX3_overturned_34 ?_
      refine lv_iconst (v := 4) hx hb dX3_overturned_35 (by decide) ?_
      refine lv_iload_n hx hb dX3_overturned_36 rfl (lv_at hl 4 rfl) ?_
      refine lv_imul hx hb dX3_overturned_37 ?_
      refine lv_ishl hx hb dX3_overturned_38 ?_
      refine lv_ior hx hb dX3_overturned_39 ?_
      refine lv_istore_n (lv' := [(2, .int (v2 ||| ((((fX3_typeAt v0 ((v1 - 1) - v3)) &&& 12) ||| (stF 1 ((fX3_typeAt v0 ((v1 - 1) - v3)) &&& 3).toNatClampNeg)) <<< ((4 * v3) &&& 31)))), (4, .int (fX3_typeAt v0 ((v1 - 1) - v3))), (0, .int v0), (1, .int v1), (3, .int v3)]) hx hb dX3_overturned_40 rfl hl (by decide) rfl (fun ls hl => ?_)
      refine lv_iinc (v := v3 + 1) (lv' := [(3, .int (v3 + 1)), (2, .int (v2 ||| ((((fX3_typeAt v0 ((v1 - 1) - v3)) &&& 12) ||| (stF 1 ((fX3_typeAt v0 ((v1 - 1) - v3)) &&& 3).toNatClampNeg)) <<< ((4 * v3) &&& 31)))), (4, .int (fX3_typeAt v0 ((v1 - 1) - v3))), (0, .int v0), (1, .int v1)]) hx hb dX3_overturned_41 hl (k := 4) rfl rfl (by decide) rfl (fun ls hl => ?_)
      refine lv_goto (tgt := 4) hx hb dX3_overturned_44 (by decide) ?_
      exact ih v0 v1 (v2 ||| ((((fX3_typeAt v0 ((v1 - 1) - v3)) &&& 12) ||| (stF 1 ((fX3_typeAt v0 ((v1 - 1) - v3)) &&& 3).toNatClampNeg)) <<< ((4 * v3) &&& 31))) (v3 + 1) _ (lv_sub hl [3, 4, 1, 0] rfl) h
  unfold fX3_overturned at h
  refine lv_iconst (v := 0) hx hb dX3_overturned_0 (by decide) ?_
  refine lv_istore_n (lv' := [(2, .int (0)), (0, .int v0), (1, .int v1)]) hx hb dX3_overturned_1 rfl hl (by decide) rfl (fun ls hl => ?_)
  refine lv_iconst (v := 0) hx hb dX3_overturned_2 (by decide) ?_
  refine lv_istore_n (lv' := [(3, .int (0)), (2, .int (0)), (0, .int v0), (1, .int v1)]) hx hb dX3_overturned_3 rfl hl (by decide) rfl (fun ls hl => ?_)
  exact w4 FU v0 v1 0 0 _ (lv_sub hl [2, 3, 1, 0] rfl) h
-- X3_with
theorem dX3_with_0 : decode cX3_with 0 = .ok (.iload_n 0, 1) := by decide +kernel
theorem dX3_with_1 : decode cX3_with 1 = .ok (.bipush 15, 2) := by decide +kernel
theorem dX3_with_3 : decode cX3_with 3 = .ok (.iconst 4, 1) := by decide +kernel
theorem dX3_with_4 : decode cX3_with 4 = .ok (.iload_n 1, 1) := by decide +kernel
theorem dX3_with_5 : decode cX3_with 5 = .ok (.imul, 1) := by decide +kernel
theorem dX3_with_6 : decode cX3_with 6 = .ok (.ishl, 1) := by decide +kernel
theorem dX3_with_7 : decode cX3_with 7 = .ok (.iconst (-1), 1) := by decide +kernel
theorem dX3_with_8 : decode cX3_with 8 = .ok (.ixor, 1) := by decide +kernel
theorem dX3_with_9 : decode cX3_with 9 = .ok (.iand, 1) := by decide +kernel
theorem dX3_with_10 : decode cX3_with 10 = .ok (.iload_n 2, 1) := by decide +kernel
theorem dX3_with_11 : decode cX3_with 11 = .ok (.iconst 4, 1) := by decide +kernel
theorem dX3_with_12 : decode cX3_with 12 = .ok (.iload_n 1, 1) := by decide +kernel
theorem dX3_with_13 : decode cX3_with 13 = .ok (.imul, 1) := by decide +kernel
theorem dX3_with_14 : decode cX3_with 14 = .ok (.ishl, 1) := by decide +kernel
theorem dX3_with_15 : decode cX3_with 15 = .ok (.ior, 1) := by decide +kernel
theorem dX3_with_16 : decode cX3_with 16 = .ok (.ireturn, 1) := by decide +kernel
noncomputable def fX3_with  (v0 : Int32) (v1 : Int32) (v2 : Int32) : Int32 := ((v0 &&& ((15 <<< ((4 * v1) &&& 31)) ^^^ (-1))) ||| (v2 <<< ((4 * v1) &&& 31)))
set_option maxHeartbeats 4000000 in
set_option maxRecDepth 100000 in
theorem ctX3_with (l : Launch) (g : GT) (v0 : Int32) (v1 : Int32) (v2 : Int32) (o : Int32) (h : fX3_with v0 v1 v2 = o) : Met l yX3_with (Cond.code yX3_with cX3_with 3 (some .int) :: Tw) ⟨0, 0, 0, 0⟩ (va_Pc [.int v0, .int v1, .int v2] (roB g [])) (vp_Si (fun x => x = o)) 0 0 (fun _ => False) := by
  refine ro_meti (by decide) (Nat.le_of_ble_eq_true rfl) (lv0 := [(0, .int v0), (1, .int v1), (2, .int v2)]) rfl ?_
  intro p e s m args below meth c ls Q cx hret hG hP hl
  have hx := cx.1
  have hb := cx.2.1
  have hG0 := hG
  unfold fX3_with at h
  refine lv_iload_n hx hb dX3_with_0 rfl (lv_at hl 0 rfl) ?_
  refine lv_bipush (v := 15) hx hb dX3_with_1 (by decide) ?_
  refine lv_iconst (v := 4) hx hb dX3_with_3 (by decide) ?_
  refine lv_iload_n hx hb dX3_with_4 rfl (lv_at hl 1 rfl) ?_
  refine lv_imul hx hb dX3_with_5 ?_
  refine lv_ishl hx hb dX3_with_6 ?_
  refine lv_iconst (v := -1) hx hb dX3_with_7 (by decide) ?_
  refine lv_ixor hx hb dX3_with_8 ?_
  refine lv_iand hx hb dX3_with_9 ?_
  refine lv_iload_n hx hb dX3_with_10 rfl (lv_at hl 2 rfl) ?_
  refine lv_iconst (v := 4) hx hb dX3_with_11 (by decide) ?_
  refine lv_iload_n hx hb dX3_with_12 rfl (lv_at hl 1 rfl) ?_
  refine lv_imul hx hb dX3_with_13 ?_
  refine lv_ishl hx hb dX3_with_14 ?_
  refine lv_ior hx hb dX3_with_15 ?_
  exact hret _ _ _ dX3_with_16 h
-- X3_whirled
theorem dX3_whirled_0 : decode cX3_whirled 0 = .ok (.iload_n 0, 1) := by decide +kernel
theorem dX3_whirled_1 : decode cX3_whirled 1 = .ok (.istore_n 3, 1) := by decide +kernel
theorem dX3_whirled_2 : decode cX3_whirled 2 = .ok (.iconst 0, 1) := by decide +kernel
theorem dX3_whirled_3 : decode cX3_whirled 3 = .ok (.istore 4, 2) := by decide +kernel
theorem dX3_whirled_5 : decode cX3_whirled 5 = .ok (.iload 4, 2) := by decide +kernel
theorem dX3_whirled_7 : decode cX3_whirled 7 = .ok (.iload_n 1, 1) := by decide +kernel
theorem dX3_whirled_8 : decode cX3_whirled 8 = .ok (.if_icmp .ge 61, 3) := by decide +kernel
theorem dX3_whirled_11 : decode cX3_whirled 11 = .ok (.iload_n 0, 1) := by decide +kernel
theorem dX3_whirled_12 : decode cX3_whirled 12 = .ok (.iload 4, 2) := by decide +kernel
theorem dX3_whirled_14 : decode cX3_whirled 14 = .ok (.invokestatic 15, 3) := by decide +kernel
theorem dX3_whirled_17 : decode cX3_whirled 17 = .ok (.istore 5, 2) := by decide +kernel
theorem dX3_whirled_19 : decode cX3_whirled 19 = .ok (.iconst 0, 1) := by decide +kernel
theorem dX3_whirled_20 : decode cX3_whirled 20 = .ok (.istore 6, 2) := by decide +kernel
theorem dX3_whirled_22 : decode cX3_whirled 22 = .ok (.iload 6, 2) := by decide +kernel
theorem dX3_whirled_24 : decode cX3_whirled 24 = .ok (.iload_n 2, 1) := by decide +kernel
theorem dX3_whirled_25 : decode cX3_whirled 25 = .ok (.if_icmp .ge 19, 3) := by decide +kernel
theorem dX3_whirled_28 : decode cX3_whirled 28 = .ok (.getstatic 33, 3) := by decide +kernel
theorem dX3_whirled_31 : decode cX3_whirled 31 = .ok (.iload 5, 2) := by decide +kernel
theorem dX3_whirled_33 : decode cX3_whirled 33 = .ok (.iconst 3, 1) := by decide +kernel
theorem dX3_whirled_34 : decode cX3_whirled 34 = .ok (.iand, 1) := by decide +kernel
theorem dX3_whirled_35 : decode cX3_whirled 35 = .ok (.iaload, 1) := by decide +kernel
theorem dX3_whirled_36 : decode cX3_whirled 36 = .ok (.istore 5, 2) := by decide +kernel
theorem dX3_whirled_38 : decode cX3_whirled 38 = .ok (.iinc 6 1, 3) := by decide +kernel
theorem dX3_whirled_41 : decode cX3_whirled 41 = .ok (.goto (-19), 3) := by decide +kernel
theorem dX3_whirled_44 : decode cX3_whirled 44 = .ok (.iload_n 3, 1) := by decide +kernel
theorem dX3_whirled_45 : decode cX3_whirled 45 = .ok (.iload 4, 2) := by decide +kernel
theorem dX3_whirled_47 : decode cX3_whirled 47 = .ok (.iload_n 0, 1) := by decide +kernel
theorem dX3_whirled_48 : decode cX3_whirled 48 = .ok (.iload 4, 2) := by decide +kernel
theorem dX3_whirled_50 : decode cX3_whirled 50 = .ok (.invokestatic 9, 3) := by decide +kernel
theorem dX3_whirled_53 : decode cX3_whirled 53 = .ok (.bipush 12, 2) := by decide +kernel
theorem dX3_whirled_55 : decode cX3_whirled 55 = .ok (.iand, 1) := by decide +kernel
theorem dX3_whirled_56 : decode cX3_whirled 56 = .ok (.iload 5, 2) := by decide +kernel
theorem dX3_whirled_58 : decode cX3_whirled 58 = .ok (.ior, 1) := by decide +kernel
theorem dX3_whirled_59 : decode cX3_whirled 59 = .ok (.invokestatic 37, 3) := by decide +kernel
theorem dX3_whirled_62 : decode cX3_whirled 62 = .ok (.istore_n 3, 1) := by decide +kernel
theorem dX3_whirled_63 : decode cX3_whirled 63 = .ok (.iinc 4 1, 3) := by decide +kernel
theorem dX3_whirled_66 : decode cX3_whirled 66 = .ok (.goto (-61), 3) := by decide +kernel
theorem dX3_whirled_69 : decode cX3_whirled 69 = .ok (.iload_n 3, 1) := by decide +kernel
theorem dX3_whirled_70 : decode cX3_whirled 70 = .ok (.ireturn, 1) := by decide +kernel
noncomputable def fX3_whirled_44 (k5 : Int32 → Int32 → Int32 → Int32 → Int32 → Option (Int32)) (v0 : Int32) (v1 : Int32) (v2 : Int32) (v3 : Int32) (v4 : Int32) (v5 : Int32) : Option (Int32) := k5 v0 v1 v2 (fX3_with v3 v4 (((fX3_typeAt v0 v4) &&& 12) ||| v5)) (v4 + 1)
noncomputable def fX3_whirled_22 (k5 : Int32 → Int32 → Int32 → Int32 → Int32 → Option (Int32)) : Nat → Int32 → Int32 → Int32 → Int32 → Int32 → Int32 → Int32 → Option (Int32)
  | 0, _, _, _, _, _, _, _ => none
  | n + 1, v0, v1, v2, v3, v4, v5, v6 => (if v2 ≤ v6 then fX3_whirled_44 k5 v0 v1 v2 v3 v4 v5 else chk 4 (v5 &&& 3) (fX3_whirled_22 k5 n v0 v1 v2 v3 v4 (stF 0 (v5 &&& 3).toNatClampNeg) (v6 + 1)))
theorem fX3_whirled_22_z (k5 : Int32 → Int32 → Int32 → Int32 → Int32 → Option (Int32)) (v0 : Int32) (v1 : Int32) (v2 : Int32) (v3 : Int32) (v4 : Int32) (v5 : Int32) (v6 : Int32) : fX3_whirled_22 k5 0 v0 v1 v2 v3 v4 v5 v6 = none := rfl
theorem fX3_whirled_22_s (k5 : Int32 → Int32 → Int32 → Int32 → Int32 → Option (Int32)) (n : Nat) (v0 : Int32) (v1 : Int32) (v2 : Int32) (v3 : Int32) (v4 : Int32) (v5 : Int32) (v6 : Int32) : fX3_whirled_22 k5 (n + 1) v0 v1 v2 v3 v4 v5 v6 = (if v2 ≤ v6 then fX3_whirled_44 k5 v0 v1 v2 v3 v4 v5 else chk 4 (v5 &&& 3) (fX3_whirled_22 k5 n v0 v1 v2 v3 v4 (stF 0 (v5 &&& 3).toNatClampNeg) (v6 + 1))) := rfl
noncomputable def fX3_whirled_5  : Nat → Int32 → Int32 → Int32 → Int32 → Int32 → Option (Int32)
  | 0, _, _, _, _, _ => none
  | n + 1, v0, v1, v2, v3, v4 => (if v1 ≤ v4 then some v3 else fX3_whirled_22 (fX3_whirled_5 n) FU v0 v1 v2 v3 v4 (fX3_angleAt v0 v4) 0)
theorem fX3_whirled_5_z  (v0 : Int32) (v1 : Int32) (v2 : Int32) (v3 : Int32) (v4 : Int32) : fX3_whirled_5  0 v0 v1 v2 v3 v4 = none := rfl
theorem fX3_whirled_5_s  (n : Nat) (v0 : Int32) (v1 : Int32) (v2 : Int32) (v3 : Int32) (v4 : Int32) : fX3_whirled_5  (n + 1) v0 v1 v2 v3 v4 = (if v1 ≤ v4 then some v3 else fX3_whirled_22 (fX3_whirled_5 n) FU v0 v1 v2 v3 v4 (fX3_angleAt v0 v4) 0) := rfl
noncomputable def fX3_whirled  (v0 : Int32) (v1 : Int32) (v2 : Int32) : Option (Int32) := fX3_whirled_5 FU v0 v1 v2 v0 0
set_option maxHeartbeats 4000000 in
set_option maxRecDepth 100000 in
theorem ctX3_whirled (l : Launch) (g : GT) (v0 : Int32) (v1 : Int32) (v2 : Int32) (o : Int32) (h : fX3_whirled v0 v1 v2 = some o) : Met l yX3_whirled (Cond.code yX3_whirled cX3_whirled 7 (some .int) :: Tw) ⟨1, 0, 0, 22⟩ (va_Pc [.int v0, .int v1, .int v2] (roB g [])) (vp_Si (fun x => x = o)) 0 0 (fun _ => False) := by
  refine ro_meti (by decide) (Nat.le_of_ble_eq_true rfl) (lv0 := [(0, .int v0), (1, .int v1), (2, .int v2)]) rfl ?_
  intro p e s m args below meth c ls Q cx hret hG hP hl
  have hx := cx.1
  have hb := cx.2.1
  have hG0 := hG
  have w44 : ∀ (k5 : Int32 → Int32 → Int32 → Int32 → Int32 → Option (Int32)) (hk5 : ∀ (v0 : Int32) (v1 : Int32) (v2 : Int32) (v3 : Int32) (v4 : Int32) (ls : Array Slot), lv_has ls 7 [(0, .int v0), (1, .int v1), (2, .int v2), (3, .int v3), (4, .int v4)] → k5 v0 v1 v2 v3 v4 = some o → W p l e ⟨1, 0, 0, 22⟩ s m args below meth c s.heap [] 0 0 Q (F0 m 5 ls [])) (v0 : Int32) (v1 : Int32) (v2 : Int32) (v3 : Int32) (v4 : Int32) (v5 : Int32) (ls : Array Slot), lv_has ls 7 [(0, .int v0), (1, .int v1), (2, .int v2), (3, .int v3), (4, .int v4), (5, .int v5)] → fX3_whirled_44 k5 v0 v1 v2 v3 v4 v5 = some o → W p l e ⟨1, 0, 0, 22⟩ s m args below meth c s.heap [] 0 0 Q (F0 m 44 ls []) := by
    intro k5 hk5 v0 v1 v2 v3 v4 v5 ls hl h
    unfold fX3_whirled_44 at h
    refine lv_iload_n hx hb dX3_whirled_44 rfl (lv_at hl 3 rfl) ?_
    refine lv_iload hx hb dX3_whirled_45 (lv_at hl 4 rfl) ?_
    refine lv_iload_n hx hb dX3_whirled_47 rfl (lv_at hl 0 rfl) ?_
    refine lv_iload hx hb dX3_whirled_48 (lv_at hl 4 rfl) ?_
    refine ro_i (runS (As := [.int v0, .int v4]) (rest := [.int v4, .int v3]) cx hl.1 (ctX3_typeAt l g v0 v4 (fX3_typeAt v0 v4) rfl) kmX3_typeAt ksX3_typeAt lm_X3_9 ⟨rfl, rfl⟩ ⟨Nat.le_of_ble_eq_true rfl, Nat.le_of_ble_eq_true rfl⟩ (roS hG (hP.sub [] rfl)) rfl rfl (Nat.le_of_ble_eq_true rfl) dX3_whirled_50 ⟨Nat.le_of_ble_eq_true rfl, Nat.le_of_ble_eq_true rfl⟩) ?_
    refine lv_bipush (v := 12) hx hb dX3_whirled_53 (by decide) ?_
    refine lv_iand hx hb dX3_whirled_55 ?_
    refine lv_iload hx hb dX3_whirled_56 (lv_at hl 5 rfl) ?_
    refine lv_ior hx hb dX3_whirled_58 ?_
    refine ro_i (runS (As := [.int v3, .int v4, .int (((fX3_typeAt v0 v4) &&& 12) ||| v5)]) (rest := []) cx hl.1 (ctX3_with l g v3 v4 (((fX3_typeAt v0 v4) &&& 12) ||| v5) (fX3_with v3 v4 (((fX3_typeAt v0 v4) &&& 12) ||| v5)) rfl) kmX3_with ksX3_with lm_X3_37 ⟨rfl, rfl⟩ ⟨Nat.le_of_ble_eq_true rfl, Nat.le_of_ble_eq_true rfl⟩ (roS hG (hP.sub [] rfl)) rfl rfl (Nat.le_of_ble_eq_true rfl) dX3_whirled_59 ⟨Nat.le_of_ble_eq_true rfl, Nat.le_of_ble_eq_true rfl⟩) ?_
    refine lv_istore_n (lv' := [(3, .int (fX3_with v3 v4 (((fX3_typeAt v0 v4) &&& 12) ||| v5))), (0, .int v0), (1, .int v1), (2, .int v2), (4, .int v4), (5, .int v5)]) hx hb dX3_whirled_62 rfl hl (by decide) rfl (fun ls hl => ?_)
    refine lv_iinc (v := v4 + 1) (lv' := [(4, .int (v4 + 1)), (3, .int (fX3_with v3 v4 (((fX3_typeAt v0 v4) &&& 12) ||| v5))), (0, .int v0), (1, .int v1), (2, .int v2), (5, .int v5)]) hx hb dX3_whirled_63 hl (k := 4) rfl rfl (by decide) rfl (fun ls hl => ?_)
    refine lv_goto (tgt := 5) hx hb dX3_whirled_66 (by decide) ?_
    exact hk5 v0 v1 v2 (fX3_with v3 v4 (((fX3_typeAt v0 v4) &&& 12) ||| v5)) (v4 + 1) _ (lv_sub hl [2, 3, 4, 1, 0] rfl) h
  have w22 : ∀ (k5 : Int32 → Int32 → Int32 → Int32 → Int32 → Option (Int32)) (hk5 : ∀ (v0 : Int32) (v1 : Int32) (v2 : Int32) (v3 : Int32) (v4 : Int32) (ls : Array Slot), lv_has ls 7 [(0, .int v0), (1, .int v1), (2, .int v2), (3, .int v3), (4, .int v4)] → k5 v0 v1 v2 v3 v4 = some o → W p l e ⟨1, 0, 0, 22⟩ s m args below meth c s.heap [] 0 0 Q (F0 m 5 ls [])) (n : Nat) (v0 : Int32) (v1 : Int32) (v2 : Int32) (v3 : Int32) (v4 : Int32) (v5 : Int32) (v6 : Int32) (ls : Array Slot), lv_has ls 7 [(0, .int v0), (1, .int v1), (2, .int v2), (3, .int v3), (4, .int v4), (5, .int v5), (6, .int v6)] → fX3_whirled_22 k5 n v0 v1 v2 v3 v4 v5 v6 = some o → W p l e ⟨1, 0, 0, 22⟩ s m args below meth c s.heap [] 0 0 Q (F0 m 22 ls []) := by
    intro k5 hk5 n
    induction n with
    | zero => intro v0 v1 v2 v3 v4 v5 v6 ls hl h; cases (fX3_whirled_22_z k5 v0 v1 v2 v3 v4 v5 v6).symm.trans h
    | succ n ih =>
    intro v0 v1 v2 v3 v4 v5 v6 ls hl h
    have h := (fX3_whirled_22_s k5 n v0 v1 v2 v3 v4 v5 v6).symm.trans h
    refine lv_iload hx hb dX3_whirled_22 (lv_at hl 6 rfl) ?_
    refine lv_iload_n hx hb dX3_whirled_24 rfl (lv_at hl 2 rfl) ?_
    refine lv_icmp_ge (tgt := 44) hx hb dX3_whirled_25 (by decide) (fun c2 => ?_) (fun c2 => ?_)
    · have h := itp c2 h
      exact w44 _ hk5 v0 v1 v2 v3 v4 v5 _ (lv_sub hl [0, 1, 2, 3, 4, 5] rfl) h
    · have h := itn c2 h
      refine xs_get cx hG0 va_S.rf 0 rfl lf_X3_33 dX3_whirled_28 ?_
      refine lv_iload hx hb dX3_whirled_31 (lv_at hl 5 rfl) ?_
      refine lv_iconst (v := 3) hx hb dX3_whirled_33 (by decide) ?_
      refine lv_iand hx hb dX3_whirled_34 ?_
      obtain ⟨hi3, h⟩ := chk_out h
      refine xs_ald (v := stF 0 (v5 &&& 3).toNatClampNeg) cx hG0 va_S.rf 0 ⟨rfl, rfl⟩ hi3 rfl dX3_whirled_35 ?_
      refine lv_istore (lv' := [(5, .int (stF 0 (v5 &&& 3).toNatClampNeg)), (0, .int v0), (1, .int v1), (2, .int v2), (3, .int v3), (4, .int v4), (6, .int v6)]) hx hb dX3_whirled_36 hl (by decide) rfl (fun ls hl => ?_)
      refine lv_iinc (v := v6 + 1) (lv' := [(6, .int (v6 + 1)), (5, .int (stF 0 (v5 &&& 3).toNatClampNeg)), (0, .int v0), (1, .int v1), (2, .int v2), (3, .int v3), (4, .int v4)]) hx hb dX3_whirled_38 hl (k := 6) rfl rfl (by decide) rfl (fun ls hl => ?_)
      refine lv_goto (tgt := 22) hx hb dX3_whirled_41 (by decide) ?_
      exact ih v0 v1 v2 v3 v4 (stF 0 (v5 &&& 3).toNatClampNeg) (v6 + 1) _ (lv_sub hl [2, 3, 4, 5, 6, 1, 0] rfl) h
  have w5 : ∀ (n : Nat) (v0 : Int32) (v1 : Int32) (v2 : Int32) (v3 : Int32) (v4 : Int32) (ls : Array Slot), lv_has ls 7 [(0, .int v0), (1, .int v1), (2, .int v2), (3, .int v3), (4, .int v4)] → fX3_whirled_5  n v0 v1 v2 v3 v4 = some o → W p l e ⟨1, 0, 0, 22⟩ s m args below meth c s.heap [] 0 0 Q (F0 m 5 ls []) := by
    intro n
    induction n with
    | zero => intro v0 v1 v2 v3 v4 ls hl h; cases (fX3_whirled_5_z  v0 v1 v2 v3 v4).symm.trans h
    | succ n ih =>
    intro v0 v1 v2 v3 v4 ls hl h
    have h := (fX3_whirled_5_s  n v0 v1 v2 v3 v4).symm.trans h
    refine lv_iload hx hb dX3_whirled_5 (lv_at hl 4 rfl) ?_
    refine lv_iload_n hx hb dX3_whirled_7 rfl (lv_at hl 1 rfl) ?_
    refine lv_icmp_ge (tgt := 69) hx hb dX3_whirled_8 (by decide) (fun c1 => ?_) (fun c1 => ?_)
    · have h := itp c1 h
      refine lv_iload_n hx hb dX3_whirled_69 rfl (lv_at hl 3 rfl) ?_
      exact hret _ _ _ dX3_whirled_70 (Option.some.inj h)
    · have h := itn c1 h
      refine lv_iload_n hx hb dX3_whirled_11 rfl (lv_at hl 0 rfl) ?_
      refine lv_iload hx hb dX3_whirled_12 (lv_at hl 4 rfl) ?_
      refine ro_i (runS (As := [.int v0, .int v4]) (rest := []) cx hl.1 (ctX3_angleAt l g v0 v4 (fX3_angleAt v0 v4) rfl) kmX3_angleAt ksX3_angleAt lm_X3_15 ⟨rfl, rfl⟩ ⟨Nat.le_of_ble_eq_true rfl, Nat.le_of_ble_eq_true rfl⟩ (roS hG (hP.sub [] rfl)) rfl rfl (Nat.le_of_ble_eq_true rfl) dX3_whirled_14 ⟨Nat.le_of_ble_eq_true rfl, Nat.le_of_ble_eq_true rfl⟩) ?_
      refine lv_istore (lv' := [(5, .int (fX3_angleAt v0 v4)), (0, .int v0), (1, .int v1), (2, .int v2), (3, .int v3), (4, .int v4)]) hx hb dX3_whirled_17 hl (by decide) rfl (fun ls hl => ?_)
      refine lv_iconst (v := 0) hx hb dX3_whirled_19 (by decide) ?_
      refine lv_istore (lv' := [(6, .int (0)), (5, .int (fX3_angleAt v0 v4)), (0, .int v0), (1, .int v1), (2, .int v2), (3, .int v3), (4, .int v4)]) hx hb dX3_whirled_20 hl (by decide) rfl (fun ls hl => ?_)
      exact w22 _ ih FU v0 v1 v2 v3 v4 (fX3_angleAt v0 v4) 0 _ (lv_sub hl [2, 3, 4, 5, 6, 1, 0] rfl) h
  unfold fX3_whirled at h
  refine lv_iload_n hx hb dX3_whirled_0 rfl (lv_at hl 0 rfl) ?_
  refine lv_istore_n (lv' := [(3, .int v0), (0, .int v0), (1, .int v1), (2, .int v2)]) hx hb dX3_whirled_1 rfl hl (by decide) rfl (fun ls hl => ?_)
  refine lv_iconst (v := 0) hx hb dX3_whirled_2 (by decide) ?_
  refine lv_istore (lv' := [(4, .int (0)), (3, .int v0), (0, .int v0), (1, .int v1), (2, .int v2)]) hx hb dX3_whirled_3 hl (by decide) rfl (fun ls hl => ?_)
  exact w5 FU v0 v1 v2 v0 0 _ (lv_sub hl [2, 3, 4, 1, 0] rfl) h
-- X7_turned
theorem dX7_turned_0 : decode cX7_turned 0 = .ok (.aload_n 0, 1) := by decide +kernel
theorem dX7_turned_1 : decode cX7_turned 1 = .ok (.getfield 30, 3) := by decide +kernel
theorem dX7_turned_4 : decode cX7_turned 4 = .ok (.getfield 139, 3) := by decide +kernel
theorem dX7_turned_7 : decode cX7_turned 7 = .ok (.ifCond .eq 10, 3) := by decide +kernel
theorem dX7_turned_10 : decode cX7_turned 10 = .ok (.iload_n 1, 1) := by decide +kernel
theorem dX7_turned_11 : decode cX7_turned 11 = .ok (.invokestatic 357, 3) := by decide +kernel
theorem dX7_turned_14 : decode cX7_turned 14 = .ok (.ifCond .ne 6, 3) := by decide +kernel
theorem dX7_turned_17 : decode cX7_turned 17 = .ok (.bipush (-2), 2) := by decide +kernel
theorem dX7_turned_19 : decode cX7_turned 19 = .ok (.ireturn, 1) := by decide +kernel
theorem dX7_turned_20 : decode cX7_turned 20 = .ok (.aload_n 0, 1) := by decide +kernel
theorem dX7_turned_21 : decode cX7_turned 21 = .ok (.getfield 34, 3) := by decide +kernel
theorem dX7_turned_24 : decode cX7_turned 24 = .ok (.iload_n 1, 1) := by decide +kernel
theorem dX7_turned_25 : decode cX7_turned 25 = .ok (.aaload, 1) := by decide +kernel
theorem dX7_turned_26 : decode cX7_turned 26 = .ok (.getfield 139, 3) := by decide +kernel
theorem dX7_turned_29 : decode cX7_turned 29 = .ok (.ifCond .ne 6, 3) := by decide +kernel
theorem dX7_turned_32 : decode cX7_turned 32 = .ok (.bipush (-6), 2) := by decide +kernel
theorem dX7_turned_34 : decode cX7_turned 34 = .ok (.ireturn, 1) := by decide +kernel
theorem dX7_turned_35 : decode cX7_turned 35 = .ok (.aload_n 0, 1) := by decide +kernel
theorem dX7_turned_36 : decode cX7_turned 36 = .ok (.getfield 30, 3) := by decide +kernel
theorem dX7_turned_39 : decode cX7_turned 39 = .ok (.invokevirtual 97, 3) := by decide +kernel
theorem dX7_turned_42 : decode cX7_turned 42 = .ok (.istore_n 2, 1) := by decide +kernel
theorem dX7_turned_43 : decode cX7_turned 43 = .ok (.aload_n 0, 1) := by decide +kernel
theorem dX7_turned_44 : decode cX7_turned 44 = .ok (.getfield 34, 3) := by decide +kernel
theorem dX7_turned_47 : decode cX7_turned 47 = .ok (.iload_n 1, 1) := by decide +kernel
theorem dX7_turned_48 : decode cX7_turned 48 = .ok (.aaload, 1) := by decide +kernel
theorem dX7_turned_49 : decode cX7_turned 49 = .ok (.invokevirtual 97, 3) := by decide +kernel
theorem dX7_turned_52 : decode cX7_turned 52 = .ok (.iload_n 2, 1) := by decide +kernel
theorem dX7_turned_53 : decode cX7_turned 53 = .ok (.if_icmp .eq 5, 3) := by decide +kernel
theorem dX7_turned_56 : decode cX7_turned 56 = .ok (.iconst (-1), 1) := by decide +kernel
theorem dX7_turned_57 : decode cX7_turned 57 = .ok (.ireturn, 1) := by decide +kernel
theorem dX7_turned_58 : decode cX7_turned 58 = .ok (.aload_n 0, 1) := by decide +kernel
theorem dX7_turned_59 : decode cX7_turned 59 = .ok (.getfield 30, 3) := by decide +kernel
theorem dX7_turned_62 : decode cX7_turned 62 = .ok (.invokevirtual 132, 3) := by decide +kernel
theorem dX7_turned_65 : decode cX7_turned 65 = .ok (.iload_n 2, 1) := by decide +kernel
theorem dX7_turned_66 : decode cX7_turned 66 = .ok (.invokestatic 354, 3) := by decide +kernel
theorem dX7_turned_69 : decode cX7_turned 69 = .ok (.istore_n 3, 1) := by decide +kernel
theorem dX7_turned_70 : decode cX7_turned 70 = .ok (.iconst 0, 1) := by decide +kernel
theorem dX7_turned_71 : decode cX7_turned 71 = .ok (.istore 4, 2) := by decide +kernel
theorem dX7_turned_73 : decode cX7_turned 73 = .ok (.iload 4, 2) := by decide +kernel
theorem dX7_turned_75 : decode cX7_turned 75 = .ok (.bipush 8, 2) := by decide +kernel
theorem dX7_turned_77 : decode cX7_turned 77 = .ok (.if_icmp .ge 53, 3) := by decide +kernel
theorem dX7_turned_80 : decode cX7_turned 80 = .ok (.iload 4, 2) := by decide +kernel
theorem dX7_turned_82 : decode cX7_turned 82 = .ok (.iconst 4, 1) := by decide +kernel
theorem dX7_turned_83 : decode cX7_turned 83 = .ok (.if_icmp .ge 13, 3) := by decide +kernel
theorem dX7_turned_86 : decode cX7_turned 86 = .ok (.aload_n 0, 1) := by decide +kernel
theorem dX7_turned_87 : decode cX7_turned 87 = .ok (.getfield 30, 3) := by decide +kernel
theorem dX7_turned_90 : decode cX7_turned 90 = .ok (.invokevirtual 132, 3) := by decide +kernel
theorem dX7_turned_93 : decode cX7_turned 93 = .ok (.goto 4, 3) := by decide +kernel
theorem dX7_turned_96 : decode cX7_turned 96 = .ok (.iload_n 3, 1) := by decide +kernel
theorem dX7_turned_97 : decode cX7_turned 97 = .ok (.istore 5, 2) := by decide +kernel
theorem dX7_turned_99 : decode cX7_turned 99 = .ok (.iload 5, 2) := by decide +kernel
theorem dX7_turned_101 : decode cX7_turned 101 = .ok (.iload_n 2, 1) := by decide +kernel
theorem dX7_turned_102 : decode cX7_turned 102 = .ok (.iload 4, 2) := by decide +kernel
theorem dX7_turned_104 : decode cX7_turned 104 = .ok (.iconst 4, 1) := by decide +kernel
theorem dX7_turned_105 : decode cX7_turned 105 = .ok (.irem, 1) := by decide +kernel
theorem dX7_turned_106 : decode cX7_turned 106 = .ok (.invokestatic 351, 3) := by decide +kernel
theorem dX7_turned_109 : decode cX7_turned 109 = .ok (.aload_n 0, 1) := by decide +kernel
theorem dX7_turned_110 : decode cX7_turned 110 = .ok (.getfield 34, 3) := by decide +kernel
theorem dX7_turned_113 : decode cX7_turned 113 = .ok (.iload_n 1, 1) := by decide +kernel
theorem dX7_turned_114 : decode cX7_turned 114 = .ok (.aaload, 1) := by decide +kernel
theorem dX7_turned_115 : decode cX7_turned 115 = .ok (.invokevirtual 132, 3) := by decide +kernel
theorem dX7_turned_118 : decode cX7_turned 118 = .ok (.if_icmp .ne 6, 3) := by decide +kernel
theorem dX7_turned_121 : decode cX7_turned 121 = .ok (.iload 4, 2) := by decide +kernel
theorem dX7_turned_123 : decode cX7_turned 123 = .ok (.ireturn, 1) := by decide +kernel
theorem dX7_turned_124 : decode cX7_turned 124 = .ok (.iinc 4 1, 3) := by decide +kernel
theorem dX7_turned_127 : decode cX7_turned 127 = .ok (.goto (-54), 3) := by decide +kernel
theorem dX7_turned_130 : decode cX7_turned 130 = .ok (.iconst (-1), 1) := by decide +kernel
theorem dX7_turned_131 : decode cX7_turned 131 = .ok (.ireturn, 1) := by decide +kernel
noncomputable def fX7_turned_97 (k73 : (Nat → Int32) → Int32 → (Nat → Int32) → Int32 → (Nat → Int32) → Int32 → (Nat → Int32) → Int32 → Int32 → Int32 → Int32 → Int32 → Option (Int32)) (t_now_rows : Nat → Int32) (t_now_acts : Int32) (t_images_0_rows : Nat → Int32) (t_images_0_acts : Int32) (t_images_1_rows : Nat → Int32) (t_images_1_acts : Int32) (t_images_2_rows : Nat → Int32) (t_images_2_acts : Int32) (v1 : Int32) (v2 : Int32) (v3 : Int32) (v4 : Int32) (z0 : Int32) : Option (Int32) := (fX3_whirled z0 v2 (v4 % 4)).bind fun r92 => (if v1 = 0 then (fX1_row t_images_0_rows t_images_0_acts).bind fun r95 => (if r92 = r95 then some v4 else k73 t_now_rows t_now_acts t_images_0_rows t_images_0_acts t_images_1_rows t_images_1_acts t_images_2_rows t_images_2_acts v1 v2 v3 (v4 + 1)) else (if v1 = 1 then (fX1_row t_images_1_rows t_images_1_acts).bind fun r99 => (if r92 = r99 then some v4 else k73 t_now_rows t_now_acts t_images_0_rows t_images_0_acts t_images_1_rows t_images_1_acts t_images_2_rows t_images_2_acts v1 v2 v3 (v4 + 1)) else (if v1 = 2 then (fX1_row t_images_2_rows t_images_2_acts).bind fun r103 => (if r92 = r103 then some v4 else k73 t_now_rows t_now_acts t_images_0_rows t_images_0_acts t_images_1_rows t_images_1_acts t_images_2_rows t_images_2_acts v1 v2 v3 (v4 + 1)) else none)))
noncomputable def fX7_turned_73  : Nat → (Nat → Int32) → Int32 → (Nat → Int32) → Int32 → (Nat → Int32) → Int32 → (Nat → Int32) → Int32 → Int32 → Int32 → Int32 → Int32 → Option (Int32)
  | 0, _, _, _, _, _, _, _, _, _, _, _, _ => none
  | n + 1, t_now_rows, t_now_acts, t_images_0_rows, t_images_0_acts, t_images_1_rows, t_images_1_acts, t_images_2_rows, t_images_2_acts, v1, v2, v3, v4 => (if 8 ≤ v4 then some (-1) else (if 4 ≤ v4 then fX7_turned_97 (fX7_turned_73 n) t_now_rows t_now_acts t_images_0_rows t_images_0_acts t_images_1_rows t_images_1_acts t_images_2_rows t_images_2_acts v1 v2 v3 v4 v3 else (fX1_row t_now_rows t_now_acts).bind fun r90 => fX7_turned_97 (fX7_turned_73 n) t_now_rows t_now_acts t_images_0_rows t_images_0_acts t_images_1_rows t_images_1_acts t_images_2_rows t_images_2_acts v1 v2 v3 v4 r90))
theorem fX7_turned_73_z  (t_now_rows : Nat → Int32) (t_now_acts : Int32) (t_images_0_rows : Nat → Int32) (t_images_0_acts : Int32) (t_images_1_rows : Nat → Int32) (t_images_1_acts : Int32) (t_images_2_rows : Nat → Int32) (t_images_2_acts : Int32) (v1 : Int32) (v2 : Int32) (v3 : Int32) (v4 : Int32) : fX7_turned_73  0 t_now_rows t_now_acts t_images_0_rows t_images_0_acts t_images_1_rows t_images_1_acts t_images_2_rows t_images_2_acts v1 v2 v3 v4 = none := rfl
theorem fX7_turned_73_s  (n : Nat) (t_now_rows : Nat → Int32) (t_now_acts : Int32) (t_images_0_rows : Nat → Int32) (t_images_0_acts : Int32) (t_images_1_rows : Nat → Int32) (t_images_1_acts : Int32) (t_images_2_rows : Nat → Int32) (t_images_2_acts : Int32) (v1 : Int32) (v2 : Int32) (v3 : Int32) (v4 : Int32) : fX7_turned_73  (n + 1) t_now_rows t_now_acts t_images_0_rows t_images_0_acts t_images_1_rows t_images_1_acts t_images_2_rows t_images_2_acts v1 v2 v3 v4 = (if 8 ≤ v4 then some (-1) else (if 4 ≤ v4 then fX7_turned_97 (fX7_turned_73 n) t_now_rows t_now_acts t_images_0_rows t_images_0_acts t_images_1_rows t_images_1_acts t_images_2_rows t_images_2_acts v1 v2 v3 v4 v3 else (fX1_row t_now_rows t_now_acts).bind fun r90 => fX7_turned_97 (fX7_turned_73 n) t_now_rows t_now_acts t_images_0_rows t_images_0_acts t_images_1_rows t_images_1_acts t_images_2_rows t_images_2_acts v1 v2 v3 v4 r90)) := rfl
noncomputable def fX7_turned  (t_now_rows : Nat → Int32) (t_now_sizes : Nat → Int32) (t_now_told : Int32) (t_now_acts : Int32) (t_images_0_rows : Nat → Int32) (t_images_0_sizes : Nat → Int32) (t_images_0_told : Int32) (t_images_0_acts : Int32) (t_images_1_rows : Nat → Int32) (t_images_1_sizes : Nat → Int32) (t_images_1_told : Int32) (t_images_1_acts : Int32) (t_images_2_rows : Nat → Int32) (t_images_2_sizes : Nat → Int32) (t_images_2_told : Int32) (t_images_2_acts : Int32) (v1 : Int32) : Option (Int32) := (if t_now_told = 0 then some (-2) else (if (fX7_isImage v1) = 0 then some (-2) else (if v1 = 0 then (if t_images_0_told = 0 then some (-6) else (fX1_plies t_now_sizes t_now_acts).bind fun r6 => (if v1 = 0 then (fX1_plies t_images_0_sizes t_images_0_acts).bind fun r9 => (if r9 = r6 then (fX1_row t_now_rows t_now_acts).bind fun r12 => (fX3_overturned r12 r6).bind fun r14 => fX7_turned_73 FU t_now_rows t_now_acts t_images_0_rows t_images_0_acts t_images_1_rows t_images_1_acts t_images_2_rows t_images_2_acts v1 r6 r14 0 else some (-1)) else (if v1 = 1 then (fX1_plies t_images_1_sizes t_images_1_acts).bind fun r17 => (if r17 = r6 then (fX1_row t_now_rows t_now_acts).bind fun r20 => (fX3_overturned r20 r6).bind fun r22 => fX7_turned_73 FU t_now_rows t_now_acts t_images_0_rows t_images_0_acts t_images_1_rows t_images_1_acts t_images_2_rows t_images_2_acts v1 r6 r22 0 else some (-1)) else (if v1 = 2 then (fX1_plies t_images_2_sizes t_images_2_acts).bind fun r25 => (if r25 = r6 then (fX1_row t_now_rows t_now_acts).bind fun r28 => (fX3_overturned r28 r6).bind fun r30 => fX7_turned_73 FU t_now_rows t_now_acts t_images_0_rows t_images_0_acts t_images_1_rows t_images_1_acts t_images_2_rows t_images_2_acts v1 r6 r30 0 else some (-1)) else none)))) else (if v1 = 1 then (if t_images_1_told = 0 then some (-6) else (fX1_plies t_now_sizes t_now_acts).bind fun r34 => (if v1 = 0 then (fX1_plies t_images_0_sizes t_images_0_acts).bind fun r37 => (if r37 = r34 then (fX1_row t_now_rows t_now_acts).bind fun r40 => (fX3_overturned r40 r34).bind fun r42 => fX7_turned_73 FU t_now_rows t_now_acts t_images_0_rows t_images_0_acts t_images_1_rows t_images_1_acts t_images_2_rows t_images_2_acts v1 r34 r42 0 else some (-1)) else (if v1 = 1 then (fX1_plies t_images_1_sizes t_images_1_acts).bind fun r45 => (if r45 = r34 then (fX1_row t_now_rows t_now_acts).bind fun r48 => (fX3_overturned r48 r34).bind fun r50 => fX7_turned_73 FU t_now_rows t_now_acts t_images_0_rows t_images_0_acts t_images_1_rows t_images_1_acts t_images_2_rows t_images_2_acts v1 r34 r50 0 else some (-1)) else (if v1 = 2 then (fX1_plies t_images_2_sizes t_images_2_acts).bind fun r53 => (if r53 = r34 then (fX1_row t_now_rows t_now_acts).bind fun r56 => (fX3_overturned r56 r34).bind fun r58 => fX7_turned_73 FU t_now_rows t_now_acts t_images_0_rows t_images_0_acts t_images_1_rows t_images_1_acts t_images_2_rows t_images_2_acts v1 r34 r58 0 else some (-1)) else none)))) else (if v1 = 2 then (if t_images_2_told = 0 then some (-6) else (fX1_plies t_now_sizes t_now_acts).bind fun r62 => (if v1 = 0 then (fX1_plies t_images_0_sizes t_images_0_acts).bind fun r65 => (if r65 = r62 then (fX1_row t_now_rows t_now_acts).bind fun r68 => (fX3_overturned r68 r62).bind fun r70 => fX7_turned_73 FU t_now_rows t_now_acts t_images_0_rows t_images_0_acts t_images_1_rows t_images_1_acts t_images_2_rows t_images_2_acts v1 r62 r70 0 else some (-1)) else (if v1 = 1 then (fX1_plies t_images_1_sizes t_images_1_acts).bind fun r73 => (if r73 = r62 then (fX1_row t_now_rows t_now_acts).bind fun r76 => (fX3_overturned r76 r62).bind fun r78 => fX7_turned_73 FU t_now_rows t_now_acts t_images_0_rows t_images_0_acts t_images_1_rows t_images_1_acts t_images_2_rows t_images_2_acts v1 r62 r78 0 else some (-1)) else (if v1 = 2 then (fX1_plies t_images_2_sizes t_images_2_acts).bind fun r81 => (if r81 = r62 then (fX1_row t_now_rows t_now_acts).bind fun r84 => (fX3_overturned r84 r62).bind fun r86 => fX7_turned_73 FU t_now_rows t_now_acts t_images_0_rows t_images_0_acts t_images_1_rows t_images_1_acts t_images_2_rows t_images_2_acts v1 r62 r86 0 else some (-1)) else none)))) else none)))))
set_option maxHeartbeats 4000000 in
set_option maxRecDepth 100000 in
theorem ctX7_turned (l : Launch) (g : GT) (a_t : Nat → Nat) (a_t_tape : Nat → Nat) (a_t_reader : Nat → Nat) (a_t_now : Nat → Nat) (a_t_choices : Nat → Nat) (a_t_ways : Nat → Nat) (a_t_stress : Nat → Nat) (a_t_images_0 : Nat → Nat) (a_t_images_1 : Nat → Nat) (a_t_images_2 : Nat → Nat) (t_now_told : Int32) (t_now_lines : Int32) (t_now_kinds : Int32) (t_now_acts : Int32) (t_now_rows : Nat → Int32) (t_now_sizes : Nat → Int32) (t_images_0_told : Int32) (t_images_0_lines : Int32) (t_images_0_kinds : Int32) (t_images_0_acts : Int32) (t_images_0_rows : Nat → Int32) (t_images_0_sizes : Nat → Int32) (t_images_1_told : Int32) (t_images_1_lines : Int32) (t_images_1_kinds : Int32) (t_images_1_acts : Int32) (t_images_1_rows : Nat → Int32) (t_images_1_sizes : Nat → Int32) (t_images_2_told : Int32) (t_images_2_lines : Int32) (t_images_2_kinds : Int32) (t_images_2_acts : Int32) (t_images_2_rows : Nat → Int32) (t_images_2_sizes : Nat → Int32) (v1 : Int32) (o : Int32) (h : fX7_turned t_now_rows t_now_sizes t_now_told t_now_acts t_images_0_rows t_images_0_sizes t_images_0_told t_images_0_acts t_images_1_rows t_images_1_sizes t_images_1_told t_images_1_acts t_images_2_rows t_images_2_sizes t_images_2_told t_images_2_acts v1 = some o) : Met l yX7_turned (Cond.code yX7_turned cX7_turned 6 (some .int) :: Tw) ⟨2, 0, 0, 48⟩ (va_Pc [.ref ((a_t 0)), .int v1] (roB g [((a_t 0), .inr (6, [.ref (a_t_tape 0), .ref (a_t_reader 0), .ref (a_t_now 0), .ref (a_t 4), .ref (a_t_choices 0), .ref (a_t_ways 0), .ref (a_t_stress 0)])), ((a_t_now 0), .inr (1, [.ref (a_t_now 1), .ref (a_t_now 2), .ref (a_t_now 3), .ref (a_t_now 4), .ref (a_t_now 5), .int t_now_told, .int t_now_lines, .int t_now_kinds, .int t_now_acts])), ((a_t_now 3), .inl (g.2.2.1 0, 31, .inl t_now_rows)), ((a_t_now 4), .inl (g.2.2.1 0, 31, .inl t_now_sizes)), ((a_t 4), .inl (g.2.2.1 4, 3, .inr (.inr (.inr (.inr (iF (a_t_images_0 0) (a_t_images_1 0) (a_t_images_2 0))))))), ((a_t_images_0 0), .inr (1, [.ref (a_t_images_0 1), .ref (a_t_images_0 2), .ref (a_t_images_0 3), .ref (a_t_images_0 4), .ref (a_t_images_0 5), .int t_images_0_told, .int t_images_0_lines, .int t_images_0_kinds, .int t_images_0_acts])), ((a_t_images_0 3), .inl (g.2.2.1 0, 31, .inl t_images_0_rows)), ((a_t_images_0 4), .inl (g.2.2.1 0, 31, .inl t_images_0_sizes)), ((a_t_images_1 0), .inr (1, [.ref (a_t_images_1 1), .ref (a_t_images_1 2), .ref (a_t_images_1 3), .ref (a_t_images_1 4), .ref (a_t_images_1 5), .int t_images_1_told, .int t_images_1_lines, .int t_images_1_kinds, .int t_images_1_acts])), ((a_t_images_1 3), .inl (g.2.2.1 0, 31, .inl t_images_1_rows)), ((a_t_images_1 4), .inl (g.2.2.1 0, 31, .inl t_images_1_sizes)), ((a_t_images_2 0), .inr (1, [.ref (a_t_images_2 1), .ref (a_t_images_2 2), .ref (a_t_images_2 3), .ref (a_t_images_2 4), .ref (a_t_images_2 5), .int t_images_2_told, .int t_images_2_lines, .int t_images_2_kinds, .int t_images_2_acts])), ((a_t_images_2 3), .inl (g.2.2.1 0, 31, .inl t_images_2_rows)), ((a_t_images_2 4), .inl (g.2.2.1 0, 31, .inl t_images_2_sizes))])) (vp_Si (fun x => x = o)) 0 0 (fun _ => False) := by
  refine ro_meti (by decide) (Nat.le_of_ble_eq_true rfl) (lv0 := [(0, .ref ((a_t 0))), (1, .int v1)]) rfl ?_
  intro p e s m args below meth c ls Q cx hret hG hP hl
  have hx := cx.1
  have hb := cx.2.1
  have hG0 := hG
  have w97 : ∀ (k73 : (Nat → Int32) → Int32 → (Nat → Int32) → Int32 → (Nat → Int32) → Int32 → (Nat → Int32) → Int32 → Int32 → Int32 → Int32 → Int32 → Option (Int32)) (hk73 : ∀ (v1 : Int32) (v2 : Int32) (v3 : Int32) (v4 : Int32) (ls : Array Slot), lv_has ls 6 [(0, .ref ((a_t 0))), (1, .int v1), (2, .int v2), (3, .int v3), (4, .int v4)] → k73 t_now_rows t_now_acts t_images_0_rows t_images_0_acts t_images_1_rows t_images_1_acts t_images_2_rows t_images_2_acts v1 v2 v3 v4 = some o → W p l e ⟨2, 0, 0, 48⟩ s m args below meth c s.heap [] 0 0 Q (F0 m 73 ls [])) (v1 : Int32) (v2 : Int32) (v3 : Int32) (v4 : Int32) (z0 : Int32) (ls : Array Slot), lv_has ls 6 [(0, .ref ((a_t 0))), (1, .int v1), (2, .int v2), (3, .int v3), (4, .int v4)] → fX7_turned_97 k73 t_now_rows t_now_acts t_images_0_rows t_images_0_acts t_images_1_rows t_images_1_acts t_images_2_rows t_images_2_acts v1 v2 v3 v4 z0 = some o → W p l e ⟨2, 0, 0, 48⟩ s m args below meth c s.heap [] 0 0 Q (F0 m 97 ls [.int z0]) := by
    intro k73 hk73 v1 v2 v3 v4 z0 ls hl h
    unfold fX7_turned_97 at h
    refine lv_istore (lv' := [(5, .int z0), (0, .ref ((a_t 0))), (1, .int v1), (2, .int v2), (3, .int v3), (4, .int v4)]) hx hb dX7_turned_97 hl (by decide) rfl (fun ls hl => ?_)
    refine lv_iload hx hb dX7_turned_99 (lv_at hl 0 rfl) ?_
    refine lv_iload_n hx hb dX7_turned_101 rfl (lv_at hl 3 rfl) ?_
    refine lv_iload hx hb dX7_turned_102 (lv_at hl 5 rfl) ?_
    refine lv_iconst (v := 4) hx hb dX7_turned_104 (by decide) ?_
    refine lv_irem hx hb dX7_turned_105 (by decide) ?_
    obtain ⟨r92, hr93, h⟩ := bnd h
    refine ro_i (runSN (As := [.int z0, .int v2, .int (v4 % 4)]) (rest := []) hG cx hl.1 (ctX3_whirled l g z0 v2 (v4 % 4) r92 hr93) kmX3_whirled ksX3_whirled nm_101 ⟨rfl, rfl⟩ ⟨Nat.le_of_ble_eq_true rfl, Nat.le_of_ble_eq_true rfl⟩ (roS hG (hP.sub [] rfl)) rfl rfl (Nat.le_of_ble_eq_true rfl) dX7_turned_106 ⟨Nat.le_of_ble_eq_true rfl, Nat.le_of_ble_eq_true rfl⟩) ?_
    refine lv_aload_n hx hb dX7_turned_109 rfl (lv_at hl 1 rfl) ?_
    refine xa_get (C := RX7) (T := TX7) (N := 7) cx hG hP 0 rfl rfl uX7 3 (by decide) lf_X7_34 rfl dX7_turned_110 ?_
    refine lv_iload_n hx hb dX7_turned_113 rfl (lv_at hl 2 rfl) ?_
    by_cases e94 : v1 = 0
    · have h := itp e94 h
      refine xa_ald3 (k := 0) cx hG hP 4 rfl (by rw [e94]; decide) rfl dX7_turned_114 ?_
      obtain ⟨r95, hr96, h⟩ := bnd h
      refine ro_i (runVN (As := []) (rest := [.int r92]) hG cx hl.1 (ctX1_row l g a_t_images_0 t_images_0_told t_images_0_lines t_images_0_kinds t_images_0_acts t_images_0_rows r95 hr96) kmX1_row kvX1_row nm_25 ⟨rfl, rfl⟩ ⟨Nat.le_of_ble_eq_true rfl, Nat.le_of_ble_eq_true rfl⟩ (roV (q0 := 5) (ci := 1) hG (hP.sub [5, 6] rfl) hP rfl rfl) rfl rfl (Nat.le_of_ble_eq_true rfl) dX7_turned_115 ⟨Nat.le_of_ble_eq_true rfl, Nat.le_of_ble_eq_true rfl⟩) ?_
      refine lv_icmp_ne (tgt := 124) hx hb dX7_turned_118 (by decide) (fun c97 => ?_) (fun c97 => ?_)
      · have h := itn c97 h
        refine lv_iinc (v := v4 + 1) (lv' := [(4, .int (v4 + 1)), (5, .int z0), (0, .ref ((a_t 0))), (1, .int v1), (2, .int v2), (3, .int v3)]) hx hb dX7_turned_124 hl (k := 5) rfl rfl (by decide) rfl (fun ls hl => ?_)
        refine lv_goto (tgt := 73) hx hb dX7_turned_127 (by decide) ?_
        exact hk73 v1 v2 v3 (v4 + 1) _ (lv_sub hl [2, 3, 4, 5, 0] rfl) h
      · have h := itp c97 h
        refine lv_iload hx hb dX7_turned_121 (lv_at hl 5 rfl) ?_
        exact hret _ _ _ dX7_turned_123 (Option.some.inj h)
    · have h := itn e94 h
      by_cases e98 : v1 = 1
      · have h := itp e98 h
        refine xa_ald3 (k := 1) cx hG hP 4 rfl (by rw [e98]; decide) rfl dX7_turned_114 ?_
        obtain ⟨r99, hr100, h⟩ := bnd h
        refine ro_i (runVN (As := []) (rest := [.int r92]) hG cx hl.1 (ctX1_row l g a_t_images_1 t_images_1_told t_images_1_lines t_images_1_kinds t_images_1_acts t_images_1_rows r99 hr100) kmX1_row kvX1_row nm_25 ⟨rfl, rfl⟩ ⟨Nat.le_of_ble_eq_true rfl, Nat.le_of_ble_eq_true rfl⟩ (roV (q0 := 8) (ci := 1) hG (hP.sub [8, 9] rfl) hP rfl rfl) rfl rfl (Nat.le_of_ble_eq_true rfl) dX7_turned_115 ⟨Nat.le_of_ble_eq_true rfl, Nat.le_of_ble_eq_true rfl⟩) ?_
        refine lv_icmp_ne (tgt := 124) hx hb dX7_turned_118 (by decide) (fun c101 => ?_) (fun c101 => ?_)
        · have h := itn c101 h
          refine lv_iinc (v := v4 + 1) (lv' := [(4, .int (v4 + 1)), (5, .int z0), (0, .ref ((a_t 0))), (1, .int v1), (2, .int v2), (3, .int v3)]) hx hb dX7_turned_124 hl (k := 5) rfl rfl (by decide) rfl (fun ls hl => ?_)
          refine lv_goto (tgt := 73) hx hb dX7_turned_127 (by decide) ?_
          exact hk73 v1 v2 v3 (v4 + 1) _ (lv_sub hl [2, 3, 4, 5, 0] rfl) h
        · have h := itp c101 h
          refine lv_iload hx hb dX7_turned_121 (lv_at hl 5 rfl) ?_
          exact hret _ _ _ dX7_turned_123 (Option.some.inj h)
      · have h := itn e98 h
        by_cases e102 : v1 = 2
        · have h := itp e102 h
          refine xa_ald3 (k := 2) cx hG hP 4 rfl (by rw [e102]; decide) rfl dX7_turned_114 ?_
          obtain ⟨r103, hr104, h⟩ := bnd h
          refine ro_i (runVN (As := []) (rest := [.int r92]) hG cx hl.1 (ctX1_row l g a_t_images_2 t_images_2_told t_images_2_lines t_images_2_kinds t_images_2_acts t_images_2_rows r103 hr104) kmX1_row kvX1_row nm_25 ⟨rfl, rfl⟩ ⟨Nat.le_of_ble_eq_true rfl, Nat.le_of_ble_eq_true rfl⟩ (roV (q0 := 11) (ci := 1) hG (hP.sub [11, 12] rfl) hP rfl rfl) rfl rfl (Nat.le_of_ble_eq_true rfl) dX7_turned_115 ⟨Nat.le_of_ble_eq_true rfl, Nat.le_of_ble_eq_true rfl⟩) ?_
          refine lv_icmp_ne (tgt := 124) hx hb dX7_turned_118 (by decide) (fun c105 => ?_) (fun c105 => ?_)
          · have h := itn c105 h
            refine lv_iinc (v := v4 + 1) (lv' := [(4, .int (v4 + 1)), (5, .int z0), (0, .ref ((a_t 0))), (1, .int v1), (2, .int v2), (3, .int v3)]) hx hb dX7_turned_124 hl (k := 5) rfl rfl (by decide) rfl (fun ls hl => ?_)
            refine lv_goto (tgt := 73) hx hb dX7_turned_127 (by decide) ?_
            exact hk73 v1 v2 v3 (v4 + 1) _ (lv_sub hl [2, 3, 4, 5, 0] rfl) h
          · have h := itp c105 h
            refine lv_iload hx hb dX7_turned_121 (lv_at hl 5 rfl) ?_
            exact hret _ _ _ dX7_turned_123 (Option.some.inj h)
        · have h := itn e102 h
          cases h
  have w73 : ∀ (n : Nat) (v1 : Int32) (v2 : Int32) (v3 : Int32) (v4 : Int32) (ls : Array Slot), lv_has ls 6 [(0, .ref ((a_t 0))), (1, .int v1), (2, .int v2), (3, .int v3), (4, .int v4)] → fX7_turned_73  n t_now_rows t_now_acts t_images_0_rows t_images_0_acts t_images_1_rows t_images_1_acts t_images_2_rows t_images_2_acts v1 v2 v3 v4 = some o → W p l e ⟨2, 0, 0, 48⟩ s m args below meth c s.heap [] 0 0 Q (F0 m 73 ls []) := by
    intro n
    induction n with
    | zero => intro v1 v2 v3 v4 ls hl h; cases (fX7_turned_73_z  t_now_rows t_now_acts t_images_0_rows t_images_0_acts t_images_1_rows t_images_1_acts t_images_2_rows t_images_2_acts v1 v2 v3 v4).symm.trans h
    | succ n ih =>
    intro v1 v2 v3 v4 ls hl h
    have h := (fX7_turned_73_s  n t_now_rows t_now_acts t_images_0_rows t_images_0_acts t_images_1_rows t_images_1_acts t_images_2_rows t_images_2_acts v1 v2 v3 v4).symm.trans h
    refine lv_iload hx hb dX7_turned_73 (lv_at hl 4 rfl) ?_
    refine lv_bipush (v := 8) hx hb dX7_turned_75 (by decide) ?_
    refine lv_icmp_ge (tgt := 130) hx hb dX7_turned_77 (by decide) (fun c88 => ?_) (fun c88 => ?_)
    · have h := itp c88 h
      refine lv_iconst (v := -1) hx hb dX7_turned_130 (by decide) ?_
      exact hret _ _ _ dX7_turned_131 (Option.some.inj h)
    · have h := itn c88 h
      refine lv_iload hx hb dX7_turned_80 (lv_at hl 4 rfl) ?_
      refine lv_iconst (v := 4) hx hb dX7_turned_82 (by decide) ?_
      refine lv_icmp_ge (tgt := 96) hx hb dX7_turned_83 (by decide) (fun c89 => ?_) (fun c89 => ?_)
      · have h := itp c89 h
        refine lv_iload_n hx hb dX7_turned_96 rfl (lv_at hl 3 rfl) ?_
        exact w97 _ ih v1 v2 v3 v4 v3 _ (lv_sub hl [0, 1, 2, 3, 4] rfl) h
      · have h := itn c89 h
        refine lv_aload_n hx hb dX7_turned_86 rfl (lv_at hl 0 rfl) ?_
        refine xa_get (C := RX7) (T := TX7) (N := 7) cx hG hP 0 rfl rfl uX7 2 (by decide) lf_X7_30 rfl dX7_turned_87 ?_
        obtain ⟨r90, hr91, h⟩ := bnd h
        refine ro_i (runVN (As := []) (rest := []) hG cx hl.1 (ctX1_row l g a_t_now t_now_told t_now_lines t_now_kinds t_now_acts t_now_rows r90 hr91) kmX1_row kvX1_row nm_25 ⟨rfl, rfl⟩ ⟨Nat.le_of_ble_eq_true rfl, Nat.le_of_ble_eq_true rfl⟩ (roV (q0 := 1) (ci := 1) hG (hP.sub [1, 2] rfl) hP rfl rfl) rfl rfl (Nat.le_of_ble_eq_true rfl) dX7_turned_90 ⟨Nat.le_of_ble_eq_true rfl, Nat.le_of_ble_eq_true rfl⟩) ?_
        refine lv_goto (tgt := 97) hx hb dX7_turned_93 (by decide) ?_
        exact w97 _ ih v1 v2 v3 v4 r90 _ (lv_sub hl [0, 1, 2, 3, 4] rfl) h
  unfold fX7_turned at h
  refine lv_aload_n hx hb dX7_turned_0 rfl (lv_at hl 0 rfl) ?_
  refine xa_get (C := RX7) (T := TX7) (N := 7) cx hG hP 0 rfl rfl uX7 2 (by decide) lf_X7_30 rfl dX7_turned_1 ?_
  refine xa_getN (C := RX1) (T := TX1) (N := 9) cx hG hP 1 rfl rfl uX1 5 (by decide) nf_5 rfl dX7_turned_4 ?_
  refine lv_if_eq (tgt := 17) hx hb dX7_turned_7 (by decide) (fun c1 => ?_) (fun c1 => ?_)
  · have h := itp c1 h
    refine lv_bipush (v := -2) hx hb dX7_turned_17 (by decide) ?_
    exact hret _ _ _ dX7_turned_19 (Option.some.inj h)
  · have h := itn c1 h
    refine lv_iload_n hx hb dX7_turned_10 rfl (lv_at hl 1 rfl) ?_
    refine ro_z (runS (As := [.int v1]) (rest := []) cx hl.1 (ctX7_isImage l g v1 (fX7_isImage v1) rfl) kmX7_isImage ksX7_isImage lm_X7_357 ⟨rfl, rfl⟩ ⟨Nat.le_of_ble_eq_true rfl, Nat.le_of_ble_eq_true rfl⟩ (roS hG (hP.sub [] rfl)) rfl rfl (Nat.le_of_ble_eq_true rfl) dX7_turned_11 ⟨Nat.le_of_ble_eq_true rfl, Nat.le_of_ble_eq_true rfl⟩) (fun hz2 => ?_)
    refine lv_if_ne (tgt := 20) hx hb dX7_turned_14 (by decide) (fun c3 => ?_) (fun c3 => ?_)
    · have h := itn c3 h
      refine lv_aload_n hx hb dX7_turned_20 rfl (lv_at hl 0 rfl) ?_
      refine xa_get (C := RX7) (T := TX7) (N := 7) cx hG hP 0 rfl rfl uX7 3 (by decide) lf_X7_34 rfl dX7_turned_21 ?_
      refine lv_iload_n hx hb dX7_turned_24 rfl (lv_at hl 1 rfl) ?_
      by_cases e4 : v1 = 0
      · have h := itp e4 h
        refine xa_ald3 (k := 0) cx hG hP 4 rfl (by rw [e4]; decide) rfl dX7_turned_25 ?_
        refine xa_getN (C := RX1) (T := TX1) (N := 9) cx hG hP 5 rfl rfl uX1 5 (by decide) nf_5 rfl dX7_turned_26 ?_
        refine lv_if_ne (tgt := 35) hx hb dX7_turned_29 (by decide) (fun c5 => ?_) (fun c5 => ?_)
        · have h := itn c5 h
          refine lv_aload_n hx hb dX7_turned_35 rfl (lv_at hl 0 rfl) ?_
          refine xa_get (C := RX7) (T := TX7) (N := 7) cx hG hP 0 rfl rfl uX7 2 (by decide) lf_X7_30 rfl dX7_turned_36 ?_
          obtain ⟨r6, hr7, h⟩ := bnd h
          refine ro_i (runVN (As := []) (rest := []) hG cx hl.1 (ctX1_plies l g a_t_now t_now_told t_now_lines t_now_kinds t_now_acts t_now_sizes r6 hr7) kmX1_plies kvX1_plies nm_17 ⟨rfl, rfl⟩ ⟨Nat.le_of_ble_eq_true rfl, Nat.le_of_ble_eq_true rfl⟩ (roV (q0 := 1) (ci := 1) hG (hP.sub [1, 3] rfl) hP rfl rfl) rfl rfl (Nat.le_of_ble_eq_true rfl) dX7_turned_39 ⟨Nat.le_of_ble_eq_true rfl, Nat.le_of_ble_eq_true rfl⟩) ?_
          refine lv_istore_n (lv' := [(2, .int r6), (0, .ref ((a_t 0))), (1, .int v1)]) hx hb dX7_turned_42 rfl hl (by decide) rfl (fun ls hl => ?_)
          refine lv_aload_n hx hb dX7_turned_43 rfl (lv_at hl 1 rfl) ?_
          refine xa_get (C := RX7) (T := TX7) (N := 7) cx hG hP 0 rfl rfl uX7 3 (by decide) lf_X7_34 rfl dX7_turned_44 ?_
          refine lv_iload_n hx hb dX7_turned_47 rfl (lv_at hl 2 rfl) ?_
          by_cases e8 : v1 = 0
          · have h := itp e8 h
            refine xa_ald3 (k := 0) cx hG hP 4 rfl (by rw [e8]; decide) rfl dX7_turned_48 ?_
            obtain ⟨r9, hr10, h⟩ := bnd h
            refine ro_i (runVN (As := []) (rest := []) hG cx hl.1 (ctX1_plies l g a_t_images_0 t_images_0_told t_images_0_lines t_images_0_kinds t_images_0_acts t_images_0_sizes r9 hr10) kmX1_plies kvX1_plies nm_17 ⟨rfl, rfl⟩ ⟨Nat.le_of_ble_eq_true rfl, Nat.le_of_ble_eq_true rfl⟩ (roV (q0 := 5) (ci := 1) hG (hP.sub [5, 7] rfl) hP rfl rfl) rfl rfl (Nat.le_of_ble_eq_true rfl) dX7_turned_49 ⟨Nat.le_of_ble_eq_true rfl, Nat.le_of_ble_eq_true rfl⟩) ?_
            refine lv_iload_n hx hb dX7_turned_52 rfl (lv_at hl 0 rfl) ?_
            refine lv_icmp_eq (tgt := 58) hx hb dX7_turned_53 (by decide) (fun c11 => ?_) (fun c11 => ?_)
            · have h := itp c11 h
              refine lv_aload_n hx hb dX7_turned_58 rfl (lv_at hl 1 rfl) ?_
              refine xa_get (C := RX7) (T := TX7) (N := 7) cx hG hP 0 rfl rfl uX7 2 (by decide) lf_X7_30 rfl dX7_turned_59 ?_
              obtain ⟨r12, hr13, h⟩ := bnd h
              refine ro_i (runVN (As := []) (rest := []) hG cx hl.1 (ctX1_row l g a_t_now t_now_told t_now_lines t_now_kinds t_now_acts t_now_rows r12 hr13) kmX1_row kvX1_row nm_25 ⟨rfl, rfl⟩ ⟨Nat.le_of_ble_eq_true rfl, Nat.le_of_ble_eq_true rfl⟩ (roV (q0 := 1) (ci := 1) hG (hP.sub [1, 2] rfl) hP rfl rfl) rfl rfl (Nat.le_of_ble_eq_true rfl) dX7_turned_62 ⟨Nat.le_of_ble_eq_true rfl, Nat.le_of_ble_eq_true rfl⟩) ?_
              refine lv_iload_n hx hb dX7_turned_65 rfl (lv_at hl 0 rfl) ?_
              obtain ⟨r14, hr15, h⟩ := bnd h
              refine ro_i (runSN (As := [.int r12, .int r6]) (rest := []) hG cx hl.1 (ctX3_overturned l g r12 r6 r14 hr15) kmX3_overturned ksX3_overturned nm_102 ⟨rfl, rfl⟩ ⟨Nat.le_of_ble_eq_true rfl, Nat.le_of_ble_eq_true rfl⟩ (roS hG (hP.sub [] rfl)) rfl rfl (Nat.le_of_ble_eq_true rfl) dX7_turned_66 ⟨Nat.le_of_ble_eq_true rfl, Nat.le_of_ble_eq_true rfl⟩) ?_
              refine lv_istore_n (lv' := [(3, .int r14), (2, .int r6), (0, .ref ((a_t 0))), (1, .int v1)]) hx hb dX7_turned_69 rfl hl (by decide) rfl (fun ls hl => ?_)
              refine lv_iconst (v := 0) hx hb dX7_turned_70 (by decide) ?_
              refine lv_istore (lv' := [(4, .int (0)), (3, .int r14), (2, .int r6), (0, .ref ((a_t 0))), (1, .int v1)]) hx hb dX7_turned_71 hl (by decide) rfl (fun ls hl => ?_)
              exact w73 FU v1 r6 r14 0 _ (lv_sub hl [3, 4, 2, 1, 0] rfl) h
            · have h := itn c11 h
              refine lv_iconst (v := -1) hx hb dX7_turned_56 (by decide) ?_
              exact hret _ _ _ dX7_turned_57 (Option.some.inj h)
          · have h := itn e8 h
            by_cases e16 : v1 = 1
            · have h := itp e16 h
              refine xa_ald3 (k := 1) cx hG hP 4 rfl (by rw [e16]; decide) rfl dX7_turned_48 ?_
              obtain ⟨r17, hr18, h⟩ := bnd h
              refine ro_i (runVN (As := []) (rest := []) hG cx hl.1 (ctX1_plies l g a_t_images_1 t_images_1_told t_images_1_lines t_images_1_kinds t_images_1_acts t_images_1_sizes r17 hr18) kmX1_plies kvX1_plies nm_17 ⟨rfl, rfl⟩ ⟨Nat.le_of_ble_eq_true rfl, Nat.le_of_ble_eq_true rfl⟩ (roV (q0 := 8) (ci := 1) hG (hP.sub [8, 10] rfl) hP rfl rfl) rfl rfl (Nat.le_of_ble_eq_true rfl) dX7_turned_49 ⟨Nat.le_of_ble_eq_true rfl, Nat.le_of_ble_eq_true rfl⟩) ?_
              refine lv_iload_n hx hb dX7_turned_52 rfl (lv_at hl 0 rfl) ?_
              refine lv_icmp_eq (tgt := 58) hx hb dX7_turned_53 (by decide) (fun c19 => ?_) (fun c19 => ?_)
              · have h := itp c19 h
                refine lv_aload_n hx hb dX7_turned_58 rfl (lv_at hl 1 rfl) ?_
                refine xa_get (C := RX7) (T := TX7) (N := 7) cx hG hP 0 rfl rfl uX7 2 (by decide) lf_X7_30 rfl dX7_turned_59 ?_
                obtain ⟨r20, hr21, h⟩ := bnd h
                refine ro_i (runVN (As := []) (rest := []) hG cx hl.1 (ctX1_row l g a_t_now t_now_told t_now_lines t_now_kinds t_now_acts t_now_rows r20 hr21) kmX1_row kvX1_row nm_25 ⟨rfl, rfl⟩ ⟨Nat.le_of_ble_eq_true rfl, Nat.le_of_ble_eq_true rfl⟩ (roV (q0 := 1) (ci := 1) hG (hP.sub [1, 2] rfl) hP rfl rfl) rfl rfl (Nat.le_of_ble_eq_true rfl) dX7_turned_62 ⟨Nat.le_of_ble_eq_true rfl, Nat.le_of_ble_eq_true rfl⟩) ?_
                refine lv_iload_n hx hb dX7_turned_65 rfl (lv_at hl 0 rfl) ?_
                obtain ⟨r22, hr23, h⟩ := bnd h
                refine ro_i (runSN (As := [.int r20, .int r6]) (rest := []) hG cx hl.1 (ctX3_overturned l g r20 r6 r22 hr23) kmX3_overturned ksX3_overturned nm_102 ⟨rfl, rfl⟩ ⟨Nat.le_of_ble_eq_true rfl, Nat.le_of_ble_eq_true rfl⟩ (roS hG (hP.sub [] rfl)) rfl rfl (Nat.le_of_ble_eq_true rfl) dX7_turned_66 ⟨Nat.le_of_ble_eq_true rfl, Nat.le_of_ble_eq_true rfl⟩) ?_
                refine lv_istore_n (lv' := [(3, .int r22), (2, .int r6), (0, .ref ((a_t 0))), (1, .int v1)]) hx hb dX7_turned_69 rfl hl (by decide) rfl (fun ls hl => ?_)
                refine lv_iconst (v := 0) hx hb dX7_turned_70 (by decide) ?_
                refine lv_istore (lv' := [(4, .int (0)), (3, .int r22), (2, .int r6), (0, .ref ((a_t 0))), (1, .int v1)]) hx hb dX7_turned_71 hl (by decide) rfl (fun ls hl => ?_)
                exact w73 FU v1 r6 r22 0 _ (lv_sub hl [3, 4, 2, 1, 0] rfl) h
              · have h := itn c19 h
                refine lv_iconst (v := -1) hx hb dX7_turned_56 (by decide) ?_
                exact hret _ _ _ dX7_turned_57 (Option.some.inj h)
            · have h := itn e16 h
              by_cases e24 : v1 = 2
              · have h := itp e24 h
                refine xa_ald3 (k := 2) cx hG hP 4 rfl (by rw [e24]; decide) rfl dX7_turned_48 ?_
                obtain ⟨r25, hr26, h⟩ := bnd h
                refine ro_i (runVN (As := []) (rest := []) hG cx hl.1 (ctX1_plies l g a_t_images_2 t_images_2_told t_images_2_lines t_images_2_kinds t_images_2_acts t_images_2_sizes r25 hr26) kmX1_plies kvX1_plies nm_17 ⟨rfl, rfl⟩ ⟨Nat.le_of_ble_eq_true rfl, Nat.le_of_ble_eq_true rfl⟩ (roV (q0 := 11) (ci := 1) hG (hP.sub [11, 13] rfl) hP rfl rfl) rfl rfl (Nat.le_of_ble_eq_true rfl) dX7_turned_49 ⟨Nat.le_of_ble_eq_true rfl, Nat.le_of_ble_eq_true rfl⟩) ?_
                refine lv_iload_n hx hb dX7_turned_52 rfl (lv_at hl 0 rfl) ?_
                refine lv_icmp_eq (tgt := 58) hx hb dX7_turned_53 (by decide) (fun c27 => ?_) (fun c27 => ?_)
                · have h := itp c27 h
                  refine lv_aload_n hx hb dX7_turned_58 rfl (lv_at hl 1 rfl) ?_
                  refine xa_get (C := RX7) (T := TX7) (N := 7) cx hG hP 0 rfl rfl uX7 2 (by decide) lf_X7_30 rfl dX7_turned_59 ?_
                  obtain ⟨r28, hr29, h⟩ := bnd h
                  refine ro_i (runVN (As := []) (rest := []) hG cx hl.1 (ctX1_row l g a_t_now t_now_told t_now_lines t_now_kinds t_now_acts t_now_rows r28 hr29) kmX1_row kvX1_row nm_25 ⟨rfl, rfl⟩ ⟨Nat.le_of_ble_eq_true rfl, Nat.le_of_ble_eq_true rfl⟩ (roV (q0 := 1) (ci := 1) hG (hP.sub [1, 2] rfl) hP rfl rfl) rfl rfl (Nat.le_of_ble_eq_true rfl) dX7_turned_62 ⟨Nat.le_of_ble_eq_true rfl, Nat.le_of_ble_eq_true rfl⟩) ?_
                  refine lv_iload_n hx hb dX7_turned_65 rfl (lv_at hl 0 rfl) ?_
                  obtain ⟨r30, hr31, h⟩ := bnd h
                  refine ro_i (runSN (As := [.int r28, .int r6]) (rest := []) hG cx hl.1 (ctX3_overturned l g r28 r6 r30 hr31) kmX3_overturned ksX3_overturned nm_102 ⟨rfl, rfl⟩ ⟨Nat.le_of_ble_eq_true rfl, Nat.le_of_ble_eq_true rfl⟩ (roS hG (hP.sub [] rfl)) rfl rfl (Nat.le_of_ble_eq_true rfl) dX7_turned_66 ⟨Nat.le_of_ble_eq_true rfl, Nat.le_of_ble_eq_true rfl⟩) ?_
                  refine lv_istore_n (lv' := [(3, .int r30), (2, .int r6), (0, .ref ((a_t 0))), (1, .int v1)]) hx hb dX7_turned_69 rfl hl (by decide) rfl (fun ls hl => ?_)
                  refine lv_iconst (v := 0) hx hb dX7_turned_70 (by decide) ?_
                  refine lv_istore (lv' := [(4, .int (0)), (3, .int r30), (2, .int r6), (0, .ref ((a_t 0))), (1, .int v1)]) hx hb dX7_turned_71 hl (by decide) rfl (fun ls hl => ?_)
                  exact w73 FU v1 r6 r30 0 _ (lv_sub hl [3, 4, 2, 1, 0] rfl) h
                · have h := itn c27 h
                  refine lv_iconst (v := -1) hx hb dX7_turned_56 (by decide) ?_
                  exact hret _ _ _ dX7_turned_57 (Option.some.inj h)
              · have h := itn e24 h
                cases h
        · have h := itp c5 h
          refine lv_bipush (v := -6) hx hb dX7_turned_32 (by decide) ?_
          exact hret _ _ _ dX7_turned_34 (Option.some.inj h)
      · have h := itn e4 h
        by_cases e32 : v1 = 1
        · have h := itp e32 h
          refine xa_ald3 (k := 1) cx hG hP 4 rfl (by rw [e32]; decide) rfl dX7_turned_25 ?_
          refine xa_getN (C := RX1) (T := TX1) (N := 9) cx hG hP 8 rfl rfl uX1 5 (by decide) nf_5 rfl dX7_turned_26 ?_
          refine lv_if_ne (tgt := 35) hx hb dX7_turned_29 (by decide) (fun c33 => ?_) (fun c33 => ?_)
          · have h := itn c33 h
            refine lv_aload_n hx hb dX7_turned_35 rfl (lv_at hl 0 rfl) ?_
            refine xa_get (C := RX7) (T := TX7) (N := 7) cx hG hP 0 rfl rfl uX7 2 (by decide) lf_X7_30 rfl dX7_turned_36 ?_
            obtain ⟨r34, hr35, h⟩ := bnd h
            refine ro_i (runVN (As := []) (rest := []) hG cx hl.1 (ctX1_plies l g a_t_now t_now_told t_now_lines t_now_kinds t_now_acts t_now_sizes r34 hr35) kmX1_plies kvX1_plies nm_17 ⟨rfl, rfl⟩ ⟨Nat.le_of_ble_eq_true rfl, Nat.le_of_ble_eq_true rfl⟩ (roV (q0 := 1) (ci := 1) hG (hP.sub [1, 3] rfl) hP rfl rfl) rfl rfl (Nat.le_of_ble_eq_true rfl) dX7_turned_39 ⟨Nat.le_of_ble_eq_true rfl, Nat.le_of_ble_eq_true rfl⟩) ?_
            refine lv_istore_n (lv' := [(2, .int r34), (0, .ref ((a_t 0))), (1, .int v1)]) hx hb dX7_turned_42 rfl hl (by decide) rfl (fun ls hl => ?_)
            refine lv_aload_n hx hb dX7_turned_43 rfl (lv_at hl 1 rfl) ?_
            refine xa_get (C := RX7) (T := TX7) (N := 7) cx hG hP 0 rfl rfl uX7 3 (by decide) lf_X7_34 rfl dX7_turned_44 ?_
            refine lv_iload_n hx hb dX7_turned_47 rfl (lv_at hl 2 rfl) ?_
            by_cases e36 : v1 = 0
            · have h := itp e36 h
              refine xa_ald3 (k := 0) cx hG hP 4 rfl (by rw [e36]; decide) rfl dX7_turned_48 ?_
              obtain ⟨r37, hr38, h⟩ := bnd h
              refine ro_i (runVN (As := []) (rest := []) hG cx hl.1 (ctX1_plies l g a_t_images_0 t_images_0_told t_images_0_lines t_images_0_kinds t_images_0_acts t_images_0_sizes r37 hr38) kmX1_plies kvX1_plies nm_17 ⟨rfl, rfl⟩ ⟨Nat.le_of_ble_eq_true rfl, Nat.le_of_ble_eq_true rfl⟩ (roV (q0 := 5) (ci := 1) hG (hP.sub [5, 7] rfl) hP rfl rfl) rfl rfl (Nat.le_of_ble_eq_true rfl) dX7_turned_49 ⟨Nat.le_of_ble_eq_true rfl, Nat.le_of_ble_eq_true rfl⟩) ?_
              refine lv_iload_n hx hb dX7_turned_52 rfl (lv_at hl 0 rfl) ?_
              refine lv_icmp_eq (tgt := 58) hx hb dX7_turned_53 (by decide) (fun c39 => ?_) (fun c39 => ?_)
              · have h := itp c39 h
                refine lv_aload_n hx hb dX7_turned_58 rfl (lv_at hl 1 rfl) ?_
                refine xa_get (C := RX7) (T := TX7) (N := 7) cx hG hP 0 rfl rfl uX7 2 (by decide) lf_X7_30 rfl dX7_turned_59 ?_
                obtain ⟨r40, hr41, h⟩ := bnd h
                refine ro_i (runVN (As := []) (rest := []) hG cx hl.1 (ctX1_row l g a_t_now t_now_told t_now_lines t_now_kinds t_now_acts t_now_rows r40 hr41) kmX1_row kvX1_row nm_25 ⟨rfl, rfl⟩ ⟨Nat.le_of_ble_eq_true rfl, Nat.le_of_ble_eq_true rfl⟩ (roV (q0 := 1) (ci := 1) hG (hP.sub [1, 2] rfl) hP rfl rfl) rfl rfl (Nat.le_of_ble_eq_true rfl) dX7_turned_62 ⟨Nat.le_of_ble_eq_true rfl, Nat.le_of_ble_eq_true rfl⟩) ?_
                refine lv_iload_n hx hb dX7_turned_65 rfl (lv_at hl 0 rfl) ?_
                obtain ⟨r42, hr43, h⟩ := bnd h
                refine ro_i (runSN (As := [.int r40, .int r34]) (rest := []) hG cx hl.1 (ctX3_overturned l g r40 r34 r42 hr43) kmX3_overturned ksX3_overturned nm_102 ⟨rfl, rfl⟩ ⟨Nat.le_of_ble_eq_true rfl, Nat.le_of_ble_eq_true rfl⟩ (roS hG (hP.sub [] rfl)) rfl rfl (Nat.le_of_ble_eq_true rfl) dX7_turned_66 ⟨Nat.le_of_ble_eq_true rfl, Nat.le_of_ble_eq_true rfl⟩) ?_
                refine lv_istore_n (lv' := [(3, .int r42), (2, .int r34), (0, .ref ((a_t 0))), (1, .int v1)]) hx hb dX7_turned_69 rfl hl (by decide) rfl (fun ls hl => ?_)
                refine lv_iconst (v := 0) hx hb dX7_turned_70 (by decide) ?_
                refine lv_istore (lv' := [(4, .int (0)), (3, .int r42), (2, .int r34), (0, .ref ((a_t 0))), (1, .int v1)]) hx hb dX7_turned_71 hl (by decide) rfl (fun ls hl => ?_)
                exact w73 FU v1 r34 r42 0 _ (lv_sub hl [3, 4, 2, 1, 0] rfl) h
              · have h := itn c39 h
                refine lv_iconst (v := -1) hx hb dX7_turned_56 (by decide) ?_
                exact hret _ _ _ dX7_turned_57 (Option.some.inj h)
            · have h := itn e36 h
              by_cases e44 : v1 = 1
              · have h := itp e44 h
                refine xa_ald3 (k := 1) cx hG hP 4 rfl (by rw [e44]; decide) rfl dX7_turned_48 ?_
                obtain ⟨r45, hr46, h⟩ := bnd h
                refine ro_i (runVN (As := []) (rest := []) hG cx hl.1 (ctX1_plies l g a_t_images_1 t_images_1_told t_images_1_lines t_images_1_kinds t_images_1_acts t_images_1_sizes r45 hr46) kmX1_plies kvX1_plies nm_17 ⟨rfl, rfl⟩ ⟨Nat.le_of_ble_eq_true rfl, Nat.le_of_ble_eq_true rfl⟩ (roV (q0 := 8) (ci := 1) hG (hP.sub [8, 10] rfl) hP rfl rfl) rfl rfl (Nat.le_of_ble_eq_true rfl) dX7_turned_49 ⟨Nat.le_of_ble_eq_true rfl, Nat.le_of_ble_eq_true rfl⟩) ?_
                refine lv_iload_n hx hb dX7_turned_52 rfl (lv_at hl 0 rfl) ?_
                refine lv_icmp_eq (tgt := 58) hx hb dX7_turned_53 (by decide) (fun c47 => ?_) (fun c47 => ?_)
                · have h := itp c47 h
                  refine lv_aload_n hx hb dX7_turned_58 rfl (lv_at hl 1 rfl) ?_
                  refine xa_get (C := RX7) (T := TX7) (N := 7) cx hG hP 0 rfl rfl uX7 2 (by decide) lf_X7_30 rfl dX7_turned_59 ?_
                  obtain ⟨r48, hr49, h⟩ := bnd h
                  refine ro_i (runVN (As := []) (rest := []) hG cx hl.1 (ctX1_row l g a_t_now t_now_told t_now_lines t_now_kinds t_now_acts t_now_rows r48 hr49) kmX1_row kvX1_row nm_25 ⟨rfl, rfl⟩ ⟨Nat.le_of_ble_eq_true rfl, Nat.le_of_ble_eq_true rfl⟩ (roV (q0 := 1) (ci := 1) hG (hP.sub [1, 2] rfl) hP rfl rfl) rfl rfl (Nat.le_of_ble_eq_true rfl) dX7_turned_62 ⟨Nat.le_of_ble_eq_true rfl, Nat.le_of_ble_eq_true rfl⟩) ?_
                  refine lv_iload_n hx hb dX7_turned_65 rfl (lv_at hl 0 rfl) ?_
                  obtain ⟨r50, hr51, h⟩ := bnd h
                  refine ro_i (runSN (As := [.int r48, .int r34]) (rest := []) hG cx hl.1 (ctX3_overturned l g r48 r34 r50 hr51) kmX3_overturned ksX3_overturned nm_102 ⟨rfl, rfl⟩ ⟨Nat.le_of_ble_eq_true rfl, Nat.le_of_ble_eq_true rfl⟩ (roS hG (hP.sub [] rfl)) rfl rfl (Nat.le_of_ble_eq_true rfl) dX7_turned_66 ⟨Nat.le_of_ble_eq_true rfl, Nat.le_of_ble_eq_true rfl⟩) ?_
                  refine lv_istore_n (lv' := [(3, .int r50), (2, .int r34), (0, .ref ((a_t 0))), (1, .int v1)]) hx hb dX7_turned_69 rfl hl (by decide) rfl (fun ls hl => ?_)
                  refine lv_iconst (v := 0) hx hb dX7_turned_70 (by decide) ?_
                  refine lv_istore (lv' := [(4, .int (0)), (3, .int r50), (2, .int r34), (0, .ref ((a_t 0))), (1, .int v1)]) hx hb dX7_turned_71 hl (by decide) rfl (fun ls hl => ?_)
                  exact w73 FU v1 r34 r50 0 _ (lv_sub hl [3, 4, 2, 1, 0] rfl) h
                · have h := itn c47 h
                  refine lv_iconst (v := -1) hx hb dX7_turned_56 (by decide) ?_
                  exact hret _ _ _ dX7_turned_57 (Option.some.inj h)
              · have h := itn e44 h
                by_cases e52 : v1 = 2
                · have h := itp e52 h
                  refine xa_ald3 (k := 2) cx hG hP 4 rfl (by rw [e52]; decide) rfl dX7_turned_48 ?_
                  obtain ⟨r53, hr54, h⟩ := bnd h
                  refine ro_i (runVN (As := []) (rest := []) hG cx hl.1 (ctX1_plies l g a_t_images_2 t_images_2_told t_images_2_lines t_images_2_kinds t_images_2_acts t_images_2_sizes r53 hr54) kmX1_plies kvX1_plies nm_17 ⟨rfl, rfl⟩ ⟨Nat.le_of_ble_eq_true rfl, Nat.le_of_ble_eq_true rfl⟩ (roV (q0 := 11) (ci := 1) hG (hP.sub [11, 13] rfl) hP rfl rfl) rfl rfl (Nat.le_of_ble_eq_true rfl) dX7_turned_49 ⟨Nat.le_of_ble_eq_true rfl, Nat.le_of_ble_eq_true rfl⟩) ?_
                  refine lv_iload_n hx hb dX7_turned_52 rfl (lv_at hl 0 rfl) ?_
                  refine lv_icmp_eq (tgt := 58) hx hb dX7_turned_53 (by decide) (fun c55 => ?_) (fun c55 => ?_)
                  · have h := itp c55 h
                    refine lv_aload_n hx hb dX7_turned_58 rfl (lv_at hl 1 rfl) ?_
                    refine xa_get (C := RX7) (T := TX7) (N := 7) cx hG hP 0 rfl rfl uX7 2 (by decide) lf_X7_30 rfl dX7_turned_59 ?_
                    obtain ⟨r56, hr57, h⟩ := bnd h
                    refine ro_i (runVN (As := []) (rest := []) hG cx hl.1 (ctX1_row l g a_t_now t_now_told t_now_lines t_now_kinds t_now_acts t_now_rows r56 hr57) kmX1_row kvX1_row nm_25 ⟨rfl, rfl⟩ ⟨Nat.le_of_ble_eq_true rfl, Nat.le_of_ble_eq_true rfl⟩ (roV (q0 := 1) (ci := 1) hG (hP.sub [1, 2] rfl) hP rfl rfl) rfl rfl (Nat.le_of_ble_eq_true rfl) dX7_turned_62 ⟨Nat.le_of_ble_eq_true rfl, Nat.le_of_ble_eq_true rfl⟩) ?_
                    refine lv_iload_n hx hb dX7_turned_65 rfl (lv_at hl 0 rfl) ?_
                    obtain ⟨r58, hr59, h⟩ := bnd h
                    refine ro_i (runSN (As := [.int r56, .int r34]) (rest := []) hG cx hl.1 (ctX3_overturned l g r56 r34 r58 hr59) kmX3_overturned ksX3_overturned nm_102 ⟨rfl, rfl⟩ ⟨Nat.le_of_ble_eq_true rfl, Nat.le_of_ble_eq_true rfl⟩ (roS hG (hP.sub [] rfl)) rfl rfl (Nat.le_of_ble_eq_true rfl) dX7_turned_66 ⟨Nat.le_of_ble_eq_true rfl, Nat.le_of_ble_eq_true rfl⟩) ?_
                    refine lv_istore_n (lv' := [(3, .int r58), (2, .int r34), (0, .ref ((a_t 0))), (1, .int v1)]) hx hb dX7_turned_69 rfl hl (by decide) rfl (fun ls hl => ?_)
                    refine lv_iconst (v := 0) hx hb dX7_turned_70 (by decide) ?_
                    refine lv_istore (lv' := [(4, .int (0)), (3, .int r58), (2, .int r34), (0, .ref ((a_t 0))), (1, .int v1)]) hx hb dX7_turned_71 hl (by decide) rfl (fun ls hl => ?_)
                    exact w73 FU v1 r34 r58 0 _ (lv_sub hl [3, 4, 2, 1, 0] rfl) h
                  · have h := itn c55 h
                    refine lv_iconst (v := -1) hx hb dX7_turned_56 (by decide) ?_
                    exact hret _ _ _ dX7_turned_57 (Option.some.inj h)
                · have h := itn e52 h
                  cases h
          · have h := itp c33 h
            refine lv_bipush (v := -6) hx hb dX7_turned_32 (by decide) ?_
            exact hret _ _ _ dX7_turned_34 (Option.some.inj h)
        · have h := itn e32 h
          by_cases e60 : v1 = 2
          · have h := itp e60 h
            refine xa_ald3 (k := 2) cx hG hP 4 rfl (by rw [e60]; decide) rfl dX7_turned_25 ?_
            refine xa_getN (C := RX1) (T := TX1) (N := 9) cx hG hP 11 rfl rfl uX1 5 (by decide) nf_5 rfl dX7_turned_26 ?_
            refine lv_if_ne (tgt := 35) hx hb dX7_turned_29 (by decide) (fun c61 => ?_) (fun c61 => ?_)
            · have h := itn c61 h
              refine lv_aload_n hx hb dX7_turned_35 rfl (lv_at hl 0 rfl) ?_
              refine xa_get (C := RX7) (T := TX7) (N := 7) cx hG hP 0 rfl rfl uX7 2 (by decide) lf_X7_30 rfl dX7_turned_36 ?_
              obtain ⟨r62, hr63, h⟩ := bnd h
              refine ro_i (runVN (As := []) (rest := []) hG cx hl.1 (ctX1_plies l g a_t_now t_now_told t_now_lines t_now_kinds t_now_acts t_now_sizes r62 hr63) kmX1_plies kvX1_plies nm_17 ⟨rfl, rfl⟩ ⟨Nat.le_of_ble_eq_true rfl, Nat.le_of_ble_eq_true rfl⟩ (roV (q0 := 1) (ci := 1) hG (hP.sub [1, 3] rfl) hP rfl rfl) rfl rfl (Nat.le_of_ble_eq_true rfl) dX7_turned_39 ⟨Nat.le_of_ble_eq_true rfl, Nat.le_of_ble_eq_true rfl⟩) ?_
              refine lv_istore_n (lv' := [(2, .int r62), (0, .ref ((a_t 0))), (1, .int v1)]) hx hb dX7_turned_42 rfl hl (by decide) rfl (fun ls hl => ?_)
              refine lv_aload_n hx hb dX7_turned_43 rfl (lv_at hl 1 rfl) ?_
              refine xa_get (C := RX7) (T := TX7) (N := 7) cx hG hP 0 rfl rfl uX7 3 (by decide) lf_X7_34 rfl dX7_turned_44 ?_
              refine lv_iload_n hx hb dX7_turned_47 rfl (lv_at hl 2 rfl) ?_
              by_cases e64 : v1 = 0
              · have h := itp e64 h
                refine xa_ald3 (k := 0) cx hG hP 4 rfl (by rw [e64]; decide) rfl dX7_turned_48 ?_
                obtain ⟨r65, hr66, h⟩ := bnd h
                refine ro_i (runVN (As := []) (rest := []) hG cx hl.1 (ctX1_plies l g a_t_images_0 t_images_0_told t_images_0_lines t_images_0_kinds t_images_0_acts t_images_0_sizes r65 hr66) kmX1_plies kvX1_plies nm_17 ⟨rfl, rfl⟩ ⟨Nat.le_of_ble_eq_true rfl, Nat.le_of_ble_eq_true rfl⟩ (roV (q0 := 5) (ci := 1) hG (hP.sub [5, 7] rfl) hP rfl rfl) rfl rfl (Nat.le_of_ble_eq_true rfl) dX7_turned_49 ⟨Nat.le_of_ble_eq_true rfl, Nat.le_of_ble_eq_true rfl⟩) ?_
                refine lv_iload_n hx hb dX7_turned_52 rfl (lv_at hl 0 rfl) ?_
                refine lv_icmp_eq (tgt := 58) hx hb dX7_turned_53 (by decide) (fun c67 => ?_) (fun c67 => ?_)
                · have h := itp c67 h
                  refine lv_aload_n hx hb dX7_turned_58 rfl (lv_at hl 1 rfl) ?_
                  refine xa_get (C := RX7) (T := TX7) (N := 7) cx hG hP 0 rfl rfl uX7 2 (by decide) lf_X7_30 rfl dX7_turned_59 ?_
                  obtain ⟨r68, hr69, h⟩ := bnd h
                  refine ro_i (runVN (As := []) (rest := []) hG cx hl.1 (ctX1_row l g a_t_now t_now_told t_now_lines t_now_kinds t_now_acts t_now_rows r68 hr69) kmX1_row kvX1_row nm_25 ⟨rfl, rfl⟩ ⟨Nat.le_of_ble_eq_true rfl, Nat.le_of_ble_eq_true rfl⟩ (roV (q0 := 1) (ci := 1) hG (hP.sub [1, 2] rfl) hP rfl rfl) rfl rfl (Nat.le_of_ble_eq_true rfl) dX7_turned_62 ⟨Nat.le_of_ble_eq_true rfl, Nat.le_of_ble_eq_true rfl⟩) ?_
                  refine lv_iload_n hx hb dX7_turned_65 rfl (lv_at hl 0 rfl) ?_
                  obtain ⟨r70, hr71, h⟩ := bnd h
                  refine ro_i (runSN (As := [.int r68, .int r62]) (rest := []) hG cx hl.1 (ctX3_overturned l g r68 r62 r70 hr71) kmX3_overturned ksX3_overturned nm_102 ⟨rfl, rfl⟩ ⟨Nat.le_of_ble_eq_true rfl, Nat.le_of_ble_eq_true rfl⟩ (roS hG (hP.sub [] rfl)) rfl rfl (Nat.le_of_ble_eq_true rfl) dX7_turned_66 ⟨Nat.le_of_ble_eq_true rfl, Nat.le_of_ble_eq_true rfl⟩) ?_
                  refine lv_istore_n (lv' := [(3, .int r70), (2, .int r62), (0, .ref ((a_t 0))), (1, .int v1)]) hx hb dX7_turned_69 rfl hl (by decide) rfl (fun ls hl => ?_)
                  refine lv_iconst (v := 0) hx hb dX7_turned_70 (by decide) ?_
                  refine lv_istore (lv' := [(4, .int (0)), (3, .int r70), (2, .int r62), (0, .ref ((a_t 0))), (1, .int v1)]) hx hb dX7_turned_71 hl (by decide) rfl (fun ls hl => ?_)
                  exact w73 FU v1 r62 r70 0 _ (lv_sub hl [3, 4, 2, 1, 0] rfl) h
                · have h := itn c67 h
                  refine lv_iconst (v := -1) hx hb dX7_turned_56 (by decide) ?_
                  exact hret _ _ _ dX7_turned_57 (Option.some.inj h)
              · have h := itn e64 h
                by_cases e72 : v1 = 1
                · have h := itp e72 h
                  refine xa_ald3 (k := 1) cx hG hP 4 rfl (by rw [e72]; decide) rfl dX7_turned_48 ?_
                  obtain ⟨r73, hr74, h⟩ := bnd h
                  refine ro_i (runVN (As := []) (rest := []) hG cx hl.1 (ctX1_plies l g a_t_images_1 t_images_1_told t_images_1_lines t_images_1_kinds t_images_1_acts t_images_1_sizes r73 hr74) kmX1_plies kvX1_plies nm_17 ⟨rfl, rfl⟩ ⟨Nat.le_of_ble_eq_true rfl, Nat.le_of_ble_eq_true rfl⟩ (roV (q0 := 8) (ci := 1) hG (hP.sub [8, 10] rfl) hP rfl rfl) rfl rfl (Nat.le_of_ble_eq_true rfl) dX7_turned_49 ⟨Nat.le_of_ble_eq_true rfl, Nat.le_of_ble_eq_true rfl⟩) ?_
                  refine lv_iload_n hx hb dX7_turned_52 rfl (lv_at hl 0 rfl) ?_
                  refine lv_icmp_eq (tgt := 58) hx hb dX7_turned_53 (by decide) (fun c75 => ?_) (fun c75 => ?_)
                  · have h := itp c75 h
                    refine lv_aload_n hx hb dX7_turned_58 rfl (lv_at hl 1 rfl) ?_
                    refine xa_get (C := RX7) (T := TX7) (N := 7) cx hG hP 0 rfl rfl uX7 2 (by decide) lf_X7_30 rfl dX7_turned_59 ?_
                    obtain ⟨r76, hr77, h⟩ := bnd h
                    refine ro_i (runVN (As := []) (rest := []) hG cx hl.1 (ctX1_row l g a_t_now t_now_told t_now_lines t_now_kinds t_now_acts t_now_rows r76 hr77) kmX1_row kvX1_row nm_25 ⟨rfl, rfl⟩ ⟨Nat.le_of_ble_eq_true rfl, Nat.le_of_ble_eq_true rfl⟩ (roV (q0 := 1) (ci := 1) hG (hP.sub [1, 2] rfl) hP rfl rfl) rfl rfl (Nat.le_of_ble_eq_true rfl) dX7_turned_62 ⟨Nat.le_of_ble_eq_true rfl, Nat.le_of_ble_eq_true rfl⟩) ?_
                    refine lv_iload_n hx hb dX7_turned_65 rfl (lv_at hl 0 rfl) ?_
                    obtain ⟨r78, hr79, h⟩ := bnd h
                    refine ro_i (runSN (As := [.int r76, .int r62]) (rest := []) hG cx hl.1 (ctX3_overturned l g r76 r62 r78 hr79) kmX3_overturned ksX3_overturned nm_102 ⟨rfl, rfl⟩ ⟨Nat.le_of_ble_eq_true rfl, Nat.le_of_ble_eq_true rfl⟩ (roS hG (hP.sub [] rfl)) rfl rfl (Nat.le_of_ble_eq_true rfl) dX7_turned_66 ⟨Nat.le_of_ble_eq_true rfl, Nat.le_of_ble_eq_true rfl⟩) ?_
                    refine lv_istore_n (lv' := [(3, .int r78), (2, .int r62), (0, .ref ((a_t 0))), (1, .int v1)]) hx hb dX7_turned_69 rfl hl (by decide) rfl (fun ls hl => ?_)
                    refine lv_iconst (v := 0) hx hb dX7_turned_70 (by decide) ?_
                    refine lv_istore (lv' := [(4, .int (0)), (3, .int r78), (2, .int r62), (0, .ref ((a_t 0))), (1, .int v1)]) hx hb dX7_turned_71 hl (by decide) rfl (fun ls hl => ?_)
                    exact w73 FU v1 r62 r78 0 _ (lv_sub hl [3, 4, 2, 1, 0] rfl) h
                  · have h := itn c75 h
                    refine lv_iconst (v := -1) hx hb dX7_turned_56 (by decide) ?_
                    exact hret _ _ _ dX7_turned_57 (Option.some.inj h)
                · have h := itn e72 h
                  by_cases e80 : v1 = 2
                  · have h := itp e80 h
                    refine xa_ald3 (k := 2) cx hG hP 4 rfl (by rw [e80]; decide) rfl dX7_turned_48 ?_
                    obtain ⟨r81, hr82, h⟩ := bnd h
                    refine ro_i (runVN (As := []) (rest := []) hG cx hl.1 (ctX1_plies l g a_t_images_2 t_images_2_told t_images_2_lines t_images_2_kinds t_images_2_acts t_images_2_sizes r81 hr82) kmX1_plies kvX1_plies nm_17 ⟨rfl, rfl⟩ ⟨Nat.le_of_ble_eq_true rfl, Nat.le_of_ble_eq_true rfl⟩ (roV (q0 := 11) (ci := 1) hG (hP.sub [11, 13] rfl) hP rfl rfl) rfl rfl (Nat.le_of_ble_eq_true rfl) dX7_turned_49 ⟨Nat.le_of_ble_eq_true rfl, Nat.le_of_ble_eq_true rfl⟩) ?_
                    refine lv_iload_n hx hb dX7_turned_52 rfl (lv_at hl 0 rfl) ?_
                    refine lv_icmp_eq (tgt := 58) hx hb dX7_turned_53 (by decide) (fun c83 => ?_) (fun c83 => ?_)
                    · have h := itp c83 h
                      refine lv_aload_n hx hb dX7_turned_58 rfl (lv_at hl 1 rfl) ?_
                      refine xa_get (C := RX7) (T := TX7) (N := 7) cx hG hP 0 rfl rfl uX7 2 (by decide) lf_X7_30 rfl dX7_turned_59 ?_
                      obtain ⟨r84, hr85, h⟩ := bnd h
                      refine ro_i (runVN (As := []) (rest := []) hG cx hl.1 (ctX1_row l g a_t_now t_now_told t_now_lines t_now_kinds t_now_acts t_now_rows r84 hr85) kmX1_row kvX1_row nm_25 ⟨rfl, rfl⟩ ⟨Nat.le_of_ble_eq_true rfl, Nat.le_of_ble_eq_true rfl⟩ (roV (q0 := 1) (ci := 1) hG (hP.sub [1, 2] rfl) hP rfl rfl) rfl rfl (Nat.le_of_ble_eq_true rfl) dX7_turned_62 ⟨Nat.le_of_ble_eq_true rfl, Nat.le_of_ble_eq_true rfl⟩) ?_
                      refine lv_iload_n hx hb dX7_turned_65 rfl (lv_at hl 0 rfl) ?_
                      obtain ⟨r86, hr87, h⟩ := bnd h
                      refine ro_i (runSN (As := [.int r84, .int r62]) (rest := []) hG cx hl.1 (ctX3_overturned l g r84 r62 r86 hr87) kmX3_overturned ksX3_overturned nm_102 ⟨rfl, rfl⟩ ⟨Nat.le_of_ble_eq_true rfl, Nat.le_of_ble_eq_true rfl⟩ (roS hG (hP.sub [] rfl)) rfl rfl (Nat.le_of_ble_eq_true rfl) dX7_turned_66 ⟨Nat.le_of_ble_eq_true rfl, Nat.le_of_ble_eq_true rfl⟩) ?_
                      refine lv_istore_n (lv' := [(3, .int r86), (2, .int r62), (0, .ref ((a_t 0))), (1, .int v1)]) hx hb dX7_turned_69 rfl hl (by decide) rfl (fun ls hl => ?_)
                      refine lv_iconst (v := 0) hx hb dX7_turned_70 (by decide) ?_
                      refine lv_istore (lv' := [(4, .int (0)), (3, .int r86), (2, .int r62), (0, .ref ((a_t 0))), (1, .int v1)]) hx hb dX7_turned_71 hl (by decide) rfl (fun ls hl => ?_)
                      exact w73 FU v1 r62 r86 0 _ (lv_sub hl [3, 4, 2, 1, 0] rfl) h
                    · have h := itn c83 h
                      refine lv_iconst (v := -1) hx hb dX7_turned_56 (by decide) ?_
                      exact hret _ _ _ dX7_turned_57 (Option.some.inj h)
                  · have h := itn e80 h
                    cases h
            · have h := itp c61 h
              refine lv_bipush (v := -6) hx hb dX7_turned_32 (by decide) ?_
              exact hret _ _ _ dX7_turned_34 (Option.some.inj h)
          · have h := itn e60 h
            cases h
    · have h := itp c3 h
      refine lv_bipush (v := -2) hx hb dX7_turned_17 (by decide) ?_
      exact hret _ _ _ dX7_turned_19 (Option.some.inj h)
-- X1_total
theorem dX1_total_0 : decode cX1_total 0 = .ok (.aload_n 0, 1) := by decide +kernel
theorem dX1_total_1 : decode cX1_total 1 = .ok (.aload_n 0, 1) := by decide +kernel
theorem dX1_total_2 : decode cX1_total 2 = .ok (.invokevirtual 55, 3) := by decide +kernel
theorem dX1_total_5 : decode cX1_total 5 = .ok (.aload_n 0, 1) := by decide +kernel
theorem dX1_total_6 : decode cX1_total 6 = .ok (.invokevirtual 51, 3) := by decide +kernel
theorem dX1_total_9 : decode cX1_total 9 = .ok (.iload_n 1, 1) := by decide +kernel
theorem dX1_total_10 : decode cX1_total 10 = .ok (.iload_n 2, 1) := by decide +kernel
theorem dX1_total_11 : decode cX1_total 11 = .ok (.iload_n 3, 1) := by decide +kernel
theorem dX1_total_12 : decode cX1_total 12 = .ok (.invokevirtual 80, 3) := by decide +kernel
theorem dX1_total_15 : decode cX1_total 15 = .ok (.lreturn, 1) := by decide +kernel
noncomputable def fX1_total  (t_cells : Nat → Int32) (t_rows : Nat → Int32) (t_sizes : Nat → Int32) (t_acts : Int32) (v1 : Int32) (v2 : Int32) (v3 : Int32) : Option (Int64) := (fX1_row t_rows t_acts).bind fun r1 => (fX1_plies t_sizes t_acts).bind fun r3 => (fX1_totalOf t_cells r1 r3 v1 v2 v3).bind fun r5 => some r5
set_option maxHeartbeats 4000000 in
set_option maxRecDepth 100000 in
theorem ctX1_total (l : Launch) (g : GT) (a_t : Nat → Nat) (t_told : Int32) (t_lines : Int32) (t_kinds : Int32) (t_acts : Int32) (t_cells : Nat → Int32) (t_rows : Nat → Int32) (t_sizes : Nat → Int32) (v1 : Int32) (v2 : Int32) (v3 : Int32) (o : Int64) (h : fX1_total t_cells t_rows t_sizes t_acts v1 v2 v3 = some o) : Met l yX1_total (Cond.code yX1_total cX1_total 4 (some .long) :: Tw) ⟨2, 0, 0, 50⟩ (va_Pc [.ref ((a_t 0)), .int v1, .int v2, .int v3] (roB g [((a_t 0), .inr (1, [.ref (a_t 1), .ref (a_t 2), .ref (a_t 3), .ref (a_t 4), .ref (a_t 5), .int t_told, .int t_lines, .int t_kinds, .int t_acts])), ((a_t 2), .inl (g.2.2.1 0, 144, .inl t_cells)), ((a_t 3), .inl (g.2.2.1 0, 31, .inl t_rows)), ((a_t 4), .inl (g.2.2.1 0, 31, .inl t_sizes))])) (vp_Sl (fun x => x = o)) 0 0 (fun _ => False) := by
  refine ro_metl (by decide) (Nat.le_of_ble_eq_true rfl) (lv0 := [(0, .ref ((a_t 0))), (1, .int v1), (2, .int v2), (3, .int v3)]) rfl ?_
  intro p e s m args below meth c ls Q cx hret hG hP hl
  have hx := cx.1
  have hb := cx.2.1
  have hG0 := hG
  unfold fX1_total at h
  refine lv_aload_n hx hb dX1_total_0 rfl (lv_at hl 0 rfl) ?_
  refine lv_aload_n hx hb dX1_total_1 rfl (lv_at hl 0 rfl) ?_
  obtain ⟨r1, hr2, h⟩ := bnd h
  refine ro_i (runV (As := []) (rest := [.ref ((a_t 0))]) cx hl.1 (ctX1_row l g a_t t_told t_lines t_kinds t_acts t_rows r1 hr2) kmX1_row kvX1_row lm_X1_55 ⟨rfl, rfl⟩ ⟨Nat.le_of_ble_eq_true rfl, Nat.le_of_ble_eq_true rfl⟩ (roV (q0 := 0) (ci := 1) hG (hP.sub [0, 2] rfl) hP rfl rfl) rfl rfl (Nat.le_of_ble_eq_true rfl) dX1_total_2 ⟨Nat.le_of_ble_eq_true rfl, Nat.le_of_ble_eq_true rfl⟩) ?_
  refine lv_aload_n hx hb dX1_total_5 rfl (lv_at hl 0 rfl) ?_
  obtain ⟨r3, hr4, h⟩ := bnd h
  refine ro_i (runV (As := []) (rest := [.int r1, .ref ((a_t 0))]) cx hl.1 (ctX1_plies l g a_t t_told t_lines t_kinds t_acts t_sizes r3 hr4) kmX1_plies kvX1_plies lm_X1_51 ⟨rfl, rfl⟩ ⟨Nat.le_of_ble_eq_true rfl, Nat.le_of_ble_eq_true rfl⟩ (roV (q0 := 0) (ci := 1) hG (hP.sub [0, 3] rfl) hP rfl rfl) rfl rfl (Nat.le_of_ble_eq_true rfl) dX1_total_6 ⟨Nat.le_of_ble_eq_true rfl, Nat.le_of_ble_eq_true rfl⟩) ?_
  refine lv_iload_n hx hb dX1_total_9 rfl (lv_at hl 1 rfl) ?_
  refine lv_iload_n hx hb dX1_total_10 rfl (lv_at hl 2 rfl) ?_
  refine lv_iload_n hx hb dX1_total_11 rfl (lv_at hl 3 rfl) ?_
  obtain ⟨r5, hr6, h⟩ := bnd h
  refine ro_l (runV (As := [.int r1, .int r3, .int v1, .int v2, .int v3]) (rest := []) cx hl.1 (ctX1_totalOf l g a_t t_told t_lines t_kinds t_acts t_cells r1 r3 v1 v2 v3 r5 hr6) kmX1_totalOf kvX1_totalOf lm_X1_80 ⟨rfl, rfl⟩ ⟨Nat.le_of_ble_eq_true rfl, Nat.le_of_ble_eq_true rfl⟩ (roV (q0 := 0) (ci := 1) hG (hP.sub [0, 1] rfl) hP rfl rfl) rfl rfl (Nat.le_of_ble_eq_true rfl) dX1_total_12 ⟨Nat.le_of_ble_eq_true rfl, Nat.le_of_ble_eq_true rfl⟩) ?_
  exact hret _ _ _ dX1_total_15 (Option.some.inj h)
-- X1_warpWithout
theorem dX1_warpWithout_0 : decode cX1_warpWithout 0 = .ok (.lconst 0, 1) := by decide +kernel
theorem dX1_warpWithout_1 : decode cX1_warpWithout 1 = .ok (.lstore_n 2, 1) := by decide +kernel
theorem dX1_warpWithout_2 : decode cX1_warpWithout 2 = .ok (.iconst 0, 1) := by decide +kernel
theorem dX1_warpWithout_3 : decode cX1_warpWithout 3 = .ok (.istore 4, 2) := by decide +kernel
theorem dX1_warpWithout_5 : decode cX1_warpWithout 5 = .ok (.iload 4, 2) := by decide +kernel
theorem dX1_warpWithout_7 : decode cX1_warpWithout 7 = .ok (.bipush 9, 2) := by decide +kernel
theorem dX1_warpWithout_9 : decode cX1_warpWithout 9 = .ok (.if_icmp .ge 23, 3) := by decide +kernel
theorem dX1_warpWithout_12 : decode cX1_warpWithout 12 = .ok (.lload_n 2, 1) := by decide +kernel
theorem dX1_warpWithout_13 : decode cX1_warpWithout 13 = .ok (.aload_n 0, 1) := by decide +kernel
theorem dX1_warpWithout_14 : decode cX1_warpWithout 14 = .ok (.iload_n 1, 1) := by decide +kernel
theorem dX1_warpWithout_15 : decode cX1_warpWithout 15 = .ok (.iconst 1, 1) := by decide +kernel
theorem dX1_warpWithout_16 : decode cX1_warpWithout 16 = .ok (.iload 4, 2) := by decide +kernel
theorem dX1_warpWithout_18 : decode cX1_warpWithout 18 = .ok (.invokevirtual 88, 3) := by decide +kernel
theorem dX1_warpWithout_21 : decode cX1_warpWithout 21 = .ok (.invokestatic 92, 3) := by decide +kernel
theorem dX1_warpWithout_24 : decode cX1_warpWithout 24 = .ok (.ladd, 1) := by decide +kernel
theorem dX1_warpWithout_25 : decode cX1_warpWithout 25 = .ok (.lstore_n 2, 1) := by decide +kernel
theorem dX1_warpWithout_26 : decode cX1_warpWithout 26 = .ok (.iinc 4 1, 3) := by decide +kernel
theorem dX1_warpWithout_29 : decode cX1_warpWithout 29 = .ok (.goto (-24), 3) := by decide +kernel
theorem dX1_warpWithout_32 : decode cX1_warpWithout 32 = .ok (.lload_n 2, 1) := by decide +kernel
theorem dX1_warpWithout_33 : decode cX1_warpWithout 33 = .ok (.lreturn, 1) := by decide +kernel
noncomputable def fX1_warpWithout_5  : Nat → (Nat → Int32) → (Nat → Int32) → (Nat → Int32) → Int32 → Int32 → Int64 → Int32 → Option (Int64)
  | 0, _, _, _, _, _, _, _ => none
  | n + 1, t_cells, t_rows, t_sizes, t_acts, v1, v2, v4 => (if 9 ≤ v4 then some v2 else (fX1_total t_cells t_rows t_sizes t_acts v1 1 v4).bind fun r2 => fX1_warpWithout_5 n t_cells t_rows t_sizes t_acts v1 (v2 + (labs r2)) (v4 + 1))
theorem fX1_warpWithout_5_z  (t_cells : Nat → Int32) (t_rows : Nat → Int32) (t_sizes : Nat → Int32) (t_acts : Int32) (v1 : Int32) (v2 : Int64) (v4 : Int32) : fX1_warpWithout_5  0 t_cells t_rows t_sizes t_acts v1 v2 v4 = none := rfl
theorem fX1_warpWithout_5_s  (n : Nat) (t_cells : Nat → Int32) (t_rows : Nat → Int32) (t_sizes : Nat → Int32) (t_acts : Int32) (v1 : Int32) (v2 : Int64) (v4 : Int32) : fX1_warpWithout_5  (n + 1) t_cells t_rows t_sizes t_acts v1 v2 v4 = (if 9 ≤ v4 then some v2 else (fX1_total t_cells t_rows t_sizes t_acts v1 1 v4).bind fun r2 => fX1_warpWithout_5 n t_cells t_rows t_sizes t_acts v1 (v2 + (labs r2)) (v4 + 1)) := rfl
noncomputable def fX1_warpWithout  (t_cells : Nat → Int32) (t_rows : Nat → Int32) (t_sizes : Nat → Int32) (t_acts : Int32) (v1 : Int32) : Option (Int64) := fX1_warpWithout_5 FU t_cells t_rows t_sizes t_acts v1 0 0
set_option maxHeartbeats 4000000 in
set_option maxRecDepth 100000 in
theorem ctX1_warpWithout (l : Launch) (g : GT) (a_t : Nat → Nat) (t_told : Int32) (t_lines : Int32) (t_kinds : Int32) (t_acts : Int32) (t_cells : Nat → Int32) (t_rows : Nat → Int32) (t_sizes : Nat → Int32) (v1 : Int32) (o : Int64) (h : fX1_warpWithout t_cells t_rows t_sizes t_acts v1 = some o) : Met l yX1_warpWithout (Cond.code yX1_warpWithout cX1_warpWithout 5 (some .long) :: Tw) ⟨3, 0, 0, 73⟩ (va_Pc [.ref ((a_t 0)), .int v1] (roB g [((a_t 0), .inr (1, [.ref (a_t 1), .ref (a_t 2), .ref (a_t 3), .ref (a_t 4), .ref (a_t 5), .int t_told, .int t_lines, .int t_kinds, .int t_acts])), ((a_t 2), .inl (g.2.2.1 0, 144, .inl t_cells)), ((a_t 3), .inl (g.2.2.1 0, 31, .inl t_rows)), ((a_t 4), .inl (g.2.2.1 0, 31, .inl t_sizes))])) (vp_Sl (fun x => x = o)) 0 0 (fun _ => False) := by
  refine ro_metl (by decide) (Nat.le_of_ble_eq_true rfl) (lv0 := [(0, .ref ((a_t 0))), (1, .int v1)]) rfl ?_
  intro p e s m args below meth c ls Q cx hret hG hP hl
  have hx := cx.1
  have hb := cx.2.1
  have hG0 := hG
  have w5 : ∀ (n : Nat) (v1 : Int32) (v2 : Int64) (v4 : Int32) (ls : Array Slot), lv_has ls 5 [(0, .ref ((a_t 0))), (1, .int v1), (2, .long v2), (4, .int v4)] → fX1_warpWithout_5  n t_cells t_rows t_sizes t_acts v1 v2 v4 = some o → W p l e ⟨3, 0, 0, 73⟩ s m args below meth c s.heap [] 0 0 Q (F0 m 5 ls []) := by
    intro n
    induction n with
    | zero => intro v1 v2 v4 ls hl h; cases (fX1_warpWithout_5_z  t_cells t_rows t_sizes t_acts v1 v2 v4).symm.trans h
    | succ n ih =>
    intro v1 v2 v4 ls hl h
    have h := (fX1_warpWithout_5_s  n t_cells t_rows t_sizes t_acts v1 v2 v4).symm.trans h
    refine lv_iload hx hb dX1_warpWithout_5 (lv_at hl 3 rfl) ?_
    refine lv_bipush (v := 9) hx hb dX1_warpWithout_7 (by decide) ?_
    refine lv_icmp_ge (tgt := 32) hx hb dX1_warpWithout_9 (by decide) (fun c1 => ?_) (fun c1 => ?_)
    · have h := itp c1 h
      refine lv_lload_n hx hb dX1_warpWithout_32 rfl (lv_at hl 2 rfl) ?_
      exact hret _ _ _ dX1_warpWithout_33 (Option.some.inj h)
    · have h := itn c1 h
      refine lv_lload_n hx hb dX1_warpWithout_12 rfl (lv_at hl 2 rfl) ?_
      refine lv_aload_n hx hb dX1_warpWithout_13 rfl (lv_at hl 0 rfl) ?_
      refine lv_iload_n hx hb dX1_warpWithout_14 rfl (lv_at hl 1 rfl) ?_
      refine lv_iconst (v := 1) hx hb dX1_warpWithout_15 (by decide) ?_
      refine lv_iload hx hb dX1_warpWithout_16 (lv_at hl 3 rfl) ?_
      obtain ⟨r2, hr3, h⟩ := bnd h
      refine ro_l (runV (As := [.int v1, .int (1), .int v4]) (rest := [.long v2]) cx hl.1 (ctX1_total l g a_t t_told t_lines t_kinds t_acts t_cells t_rows t_sizes v1 (1) v4 r2 hr3) kmX1_total kvX1_total lm_X1_88 ⟨rfl, rfl⟩ ⟨Nat.le_of_ble_eq_true rfl, Nat.le_of_ble_eq_true rfl⟩ (roV (q0 := 0) (ci := 1) hG (hP.sub [0, 1, 2, 3] rfl) hP rfl rfl) rfl rfl (Nat.le_of_ble_eq_true rfl) dX1_warpWithout_18 ⟨Nat.le_of_ble_eq_true rfl, Nat.le_of_ble_eq_true rfl⟩) ?_
      refine xm_labs cx hl.1 lm_X1_92 ⟨ksJ9_abs_067f4, kmJ9_abs_067f4.2.1, kmJ9_abs_067f4.1⟩ (Nat.le_of_ble_eq_true rfl) (Nat.le_of_ble_eq_true rfl) (Nat.le_of_ble_eq_true rfl) (Nat.le_of_ble_eq_true rfl) dX1_warpWithout_21 ?_
      refine lv_ladd hx hb dX1_warpWithout_24 ?_
      refine lv_lstore_n (lv' := [(2, .long (v2 + (labs r2))), (0, .ref ((a_t 0))), (1, .int v1), (4, .int v4)]) hx hb dX1_warpWithout_25 rfl hl (by decide) rfl (fun ls hl => ?_)
      refine lv_iinc (v := v4 + 1) (lv' := [(4, .int (v4 + 1)), (2, .long (v2 + (labs r2))), (0, .ref ((a_t 0))), (1, .int v1)]) hx hb dX1_warpWithout_26 hl (k := 3) rfl rfl (by decide) rfl (fun ls hl => ?_)
      refine lv_goto (tgt := 5) hx hb dX1_warpWithout_29 (by decide) ?_
      exact ih v1 (v2 + (labs r2)) (v4 + 1) _ (lv_sub hl [2, 3, 1, 0] rfl) h
  unfold fX1_warpWithout at h
  refine lv_lconst (v := 0) hx hb dX1_warpWithout_0 (by decide) ?_
  refine lv_lstore_n (lv' := [(2, .long (0)), (0, .ref ((a_t 0))), (1, .int v1)]) hx hb dX1_warpWithout_1 rfl hl (by decide) rfl (fun ls hl => ?_)
  refine lv_iconst (v := 0) hx hb dX1_warpWithout_2 (by decide) ?_
  refine lv_istore (lv' := [(4, .int (0)), (2, .long (0)), (0, .ref ((a_t 0))), (1, .int v1)]) hx hb dX1_warpWithout_3 hl (by decide) rfl (fun ls hl => ?_)
  exact w5 FU v1 0 0 _ (lv_sub hl [2, 3, 1, 0] rfl) h
-- X7_leftWithout
theorem dX7_leftWithout_0 : decode cX7_leftWithout 0 = .ok (.iconst 1, 1) := by decide +kernel
theorem dX7_leftWithout_1 : decode cX7_leftWithout 1 = .ok (.iload_n 1, 1) := by decide +kernel
theorem dX7_leftWithout_2 : decode cX7_leftWithout 2 = .ok (.ishl, 1) := by decide +kernel
theorem dX7_leftWithout_3 : decode cX7_leftWithout 3 = .ok (.istore_n 3, 1) := by decide +kernel
theorem dX7_leftWithout_4 : decode cX7_leftWithout 4 = .ok (.iload_n 2, 1) := by decide +kernel
theorem dX7_leftWithout_5 : decode cX7_leftWithout 5 = .ok (.iconst 2, 1) := by decide +kernel
theorem dX7_leftWithout_6 : decode cX7_leftWithout 6 = .ok (.if_icmp .ne 12, 3) := by decide +kernel
theorem dX7_leftWithout_9 : decode cX7_leftWithout 9 = .ok (.aload_n 0, 1) := by decide +kernel
theorem dX7_leftWithout_10 : decode cX7_leftWithout 10 = .ok (.getfield 30, 3) := by decide +kernel
theorem dX7_leftWithout_13 : decode cX7_leftWithout 13 = .ok (.iload_n 3, 1) := by decide +kernel
theorem dX7_leftWithout_14 : decode cX7_leftWithout 14 = .ok (.invokevirtual 158, 3) := by decide +kernel
theorem dX7_leftWithout_17 : decode cX7_leftWithout 17 = .ok (.lreturn, 1) := by decide +kernel
theorem dX7_leftWithout_18 : decode cX7_leftWithout 18 = .ok (.aload_n 0, 1) := by decide +kernel
theorem dX7_leftWithout_19 : decode cX7_leftWithout 19 = .ok (.getfield 30, 3) := by decide +kernel
theorem dX7_leftWithout_22 : decode cX7_leftWithout 22 = .ok (.iload_n 3, 1) := by decide +kernel
theorem dX7_leftWithout_23 : decode cX7_leftWithout 23 = .ok (.iload_n 2, 1) := by decide +kernel
theorem dX7_leftWithout_24 : decode cX7_leftWithout 24 = .ok (.ifCond .ne 7, 3) := by decide +kernel
theorem dX7_leftWithout_27 : decode cX7_leftWithout 27 = .ok (.iconst 2, 1) := by decide +kernel
theorem dX7_leftWithout_28 : decode cX7_leftWithout 28 = .ok (.goto 4, 3) := by decide +kernel
theorem dX7_leftWithout_31 : decode cX7_leftWithout 31 = .ok (.iconst 0, 1) := by decide +kernel
theorem dX7_leftWithout_32 : decode cX7_leftWithout 32 = .ok (.iconst 0, 1) := by decide +kernel
theorem dX7_leftWithout_33 : decode cX7_leftWithout 33 = .ok (.invokevirtual 148, 3) := by decide +kernel
theorem dX7_leftWithout_36 : decode cX7_leftWithout 36 = .ok (.lreturn, 1) := by decide +kernel
noncomputable def fX7_leftWithout_32  (t_now_cells : Nat → Int32) (t_now_rows : Nat → Int32) (t_now_sizes : Nat → Int32) (t_now_acts : Int32) (z1 : Int32) (z2 : Int32) : Option (Int64) := (fX1_total t_now_cells t_now_rows t_now_sizes t_now_acts z1 z2 0).bind fun r5 => some r5
noncomputable def fX7_leftWithout  (t_now_cells : Nat → Int32) (t_now_rows : Nat → Int32) (t_now_sizes : Nat → Int32) (t_now_acts : Int32) (v1 : Int32) (v2 : Int32) : Option (Int64) := (if v2 = 2 then (fX1_warpWithout t_now_cells t_now_rows t_now_sizes t_now_acts (1 <<< (v1 &&& 31))).bind fun r3 => some r3 else (if v2 = 0 then fX7_leftWithout_32 t_now_cells t_now_rows t_now_sizes t_now_acts (1 <<< (v1 &&& 31)) 2 else fX7_leftWithout_32 t_now_cells t_now_rows t_now_sizes t_now_acts (1 <<< (v1 &&& 31)) 0))
set_option maxHeartbeats 4000000 in
set_option maxRecDepth 100000 in
theorem ctX7_leftWithout (l : Launch) (g : GT) (a_t : Nat → Nat) (a_t_tape : Nat → Nat) (a_t_reader : Nat → Nat) (a_t_now : Nat → Nat) (a_t_choices : Nat → Nat) (a_t_ways : Nat → Nat) (a_t_stress : Nat → Nat) (t_now_told : Int32) (t_now_lines : Int32) (t_now_kinds : Int32) (t_now_acts : Int32) (t_now_cells : Nat → Int32) (t_now_rows : Nat → Int32) (t_now_sizes : Nat → Int32) (v1 : Int32) (v2 : Int32) (o : Int64) (h : fX7_leftWithout t_now_cells t_now_rows t_now_sizes t_now_acts v1 v2 = some o) : Met l yX7_leftWithout (Cond.code yX7_leftWithout cX7_leftWithout 4 (some .long) :: Tw) ⟨4, 0, 0, 97⟩ (va_Pc [.ref ((a_t 0)), .int v1, .int v2] (roB g [((a_t 0), .inr (6, [.ref (a_t_tape 0), .ref (a_t_reader 0), .ref (a_t_now 0), .ref (a_t 4), .ref (a_t_choices 0), .ref (a_t_ways 0), .ref (a_t_stress 0)])), ((a_t_now 0), .inr (1, [.ref (a_t_now 1), .ref (a_t_now 2), .ref (a_t_now 3), .ref (a_t_now 4), .ref (a_t_now 5), .int t_now_told, .int t_now_lines, .int t_now_kinds, .int t_now_acts])), ((a_t_now 2), .inl (g.2.2.1 0, 144, .inl t_now_cells)), ((a_t_now 3), .inl (g.2.2.1 0, 31, .inl t_now_rows)), ((a_t_now 4), .inl (g.2.2.1 0, 31, .inl t_now_sizes))])) (vp_Sl (fun x => x = o)) 0 0 (fun _ => False) := by
  refine ro_metl (by decide) (Nat.le_of_ble_eq_true rfl) (lv0 := [(0, .ref ((a_t 0))), (1, .int v1), (2, .int v2)]) rfl ?_
  intro p e s m args below meth c ls Q cx hret hG hP hl
  have hx := cx.1
  have hb := cx.2.1
  have hG0 := hG
  have w32 : ∀ (z1 : Int32) (z2 : Int32) (ls : Array Slot), lv_has ls 4 [] → fX7_leftWithout_32  t_now_cells t_now_rows t_now_sizes t_now_acts z1 z2 = some o → W p l e ⟨4, 0, 0, 97⟩ s m args below meth c s.heap [] 0 0 Q (F0 m 32 ls [.int z2, .int z1, .ref ((a_t_now 0))]) := by
    intro z1 z2 ls hl h
    unfold fX7_leftWithout_32 at h
    refine lv_iconst (v := 0) hx hb dX7_leftWithout_32 (by decide) ?_
    obtain ⟨r5, hr6, h⟩ := bnd h
    refine ro_l (runVN (As := [.int z1, .int z2, .int (0)]) (rest := []) hG cx hl.1 (ctX1_total l g a_t_now t_now_told t_now_lines t_now_kinds t_now_acts t_now_cells t_now_rows t_now_sizes z1 z2 (0) r5 hr6) kmX1_total kvX1_total nm_27 ⟨rfl, rfl⟩ ⟨Nat.le_of_ble_eq_true rfl, Nat.le_of_ble_eq_true rfl⟩ (roV (q0 := 1) (ci := 1) hG (hP.sub [1, 2, 3, 4] rfl) hP rfl rfl) rfl rfl (Nat.le_of_ble_eq_true rfl) dX7_leftWithout_33 ⟨Nat.le_of_ble_eq_true rfl, Nat.le_of_ble_eq_true rfl⟩) ?_
    exact hret _ _ _ dX7_leftWithout_36 (Option.some.inj h)
  unfold fX7_leftWithout at h
  refine lv_iconst (v := 1) hx hb dX7_leftWithout_0 (by decide) ?_
  refine lv_iload_n hx hb dX7_leftWithout_1 rfl (lv_at hl 1 rfl) ?_
  refine lv_ishl hx hb dX7_leftWithout_2 ?_
  refine lv_istore_n (lv' := [(3, .int (1 <<< (v1 &&& 31))), (0, .ref ((a_t 0))), (1, .int v1), (2, .int v2)]) hx hb dX7_leftWithout_3 rfl hl (by decide) rfl (fun ls hl => ?_)
  refine lv_iload_n hx hb dX7_leftWithout_4 rfl (lv_at hl 3 rfl) ?_
  refine lv_iconst (v := 2) hx hb dX7_leftWithout_5 (by decide) ?_
  refine lv_icmp_ne (tgt := 18) hx hb dX7_leftWithout_6 (by decide) (fun c1 => ?_) (fun c1 => ?_)
  · have h := itn c1 h
    refine lv_aload_n hx hb dX7_leftWithout_18 rfl (lv_at hl 1 rfl) ?_
    refine xa_get (C := RX7) (T := TX7) (N := 7) cx hG hP 0 rfl rfl uX7 2 (by decide) lf_X7_30 rfl dX7_leftWithout_19 ?_
    refine lv_iload_n hx hb dX7_leftWithout_22 rfl (lv_at hl 0 rfl) ?_
    refine lv_iload_n hx hb dX7_leftWithout_23 rfl (lv_at hl 3 rfl) ?_
    refine lv_if_ne (tgt := 31) hx hb dX7_leftWithout_24 (by decide) (fun c2 => ?_) (fun c2 => ?_)
    · have h := itn c2 h
      refine lv_iconst (v := 0) hx hb dX7_leftWithout_31 (by decide) ?_
      exact w32 (1 <<< (v1 &&& 31)) 0 _ (lv_sub hl [] rfl) h
    · have h := itp c2 h
      refine lv_iconst (v := 2) hx hb dX7_leftWithout_27 (by decide) ?_
      refine lv_goto (tgt := 32) hx hb dX7_leftWithout_28 (by decide) ?_
      exact w32 (1 <<< (v1 &&& 31)) 2 _ (lv_sub hl [] rfl) h
  · have h := itp c1 h
    refine lv_aload_n hx hb dX7_leftWithout_9 rfl (lv_at hl 1 rfl) ?_
    refine xa_get (C := RX7) (T := TX7) (N := 7) cx hG hP 0 rfl rfl uX7 2 (by decide) lf_X7_30 rfl dX7_leftWithout_10 ?_
    refine lv_iload_n hx hb dX7_leftWithout_13 rfl (lv_at hl 0 rfl) ?_
    obtain ⟨r3, hr4, h⟩ := bnd h
    refine ro_l (runVN (As := [.int (1 <<< (v1 &&& 31))]) (rest := []) hG cx hl.1 (ctX1_warpWithout l g a_t_now t_now_told t_now_lines t_now_kinds t_now_acts t_now_cells t_now_rows t_now_sizes (1 <<< (v1 &&& 31)) r3 hr4) kmX1_warpWithout kvX1_warpWithout nm_32 ⟨rfl, rfl⟩ ⟨Nat.le_of_ble_eq_true rfl, Nat.le_of_ble_eq_true rfl⟩ (roV (q0 := 1) (ci := 1) hG (hP.sub [1, 2, 3, 4] rfl) hP rfl rfl) rfl rfl (Nat.le_of_ble_eq_true rfl) dX7_leftWithout_14 ⟨Nat.le_of_ble_eq_true rfl, Nat.le_of_ble_eq_true rfl⟩) ?_
    exact hret _ _ _ dX7_leftWithout_17 (Option.some.inj h)
-- X7_worst
theorem dX7_worst_0 : decode cX7_worst 0 = .ok (.aload_n 0, 1) := by decide +kernel
theorem dX7_worst_1 : decode cX7_worst 1 = .ok (.getfield 30, 3) := by decide +kernel
theorem dX7_worst_4 : decode cX7_worst 4 = .ok (.getfield 139, 3) := by decide +kernel
theorem dX7_worst_7 : decode cX7_worst 7 = .ok (.ifCond .eq 12, 3) := by decide +kernel
theorem dX7_worst_10 : decode cX7_worst 10 = .ok (.iload_n 1, 1) := by decide +kernel
theorem dX7_worst_11 : decode cX7_worst 11 = .ok (.ifCond .lt 8, 3) := by decide +kernel
theorem dX7_worst_14 : decode cX7_worst 14 = .ok (.iload_n 1, 1) := by decide +kernel
theorem dX7_worst_15 : decode cX7_worst 15 = .ok (.iconst 2, 1) := by decide +kernel
theorem dX7_worst_16 : decode cX7_worst 16 = .ok (.if_icmp .le 6, 3) := by decide +kernel
theorem dX7_worst_19 : decode cX7_worst 19 = .ok (.bipush (-2), 2) := by decide +kernel
theorem dX7_worst_21 : decode cX7_worst 21 = .ok (.ireturn, 1) := by decide +kernel
theorem dX7_worst_22 : decode cX7_worst 22 = .ok (.iconst (-1), 1) := by decide +kernel
theorem dX7_worst_23 : decode cX7_worst 23 = .ok (.istore_n 2, 1) := by decide +kernel
theorem dX7_worst_24 : decode cX7_worst 24 = .ok (.lconst 0, 1) := by decide +kernel
theorem dX7_worst_25 : decode cX7_worst 25 = .ok (.lstore_n 3, 1) := by decide +kernel
theorem dX7_worst_26 : decode cX7_worst 26 = .ok (.iconst 0, 1) := by decide +kernel
theorem dX7_worst_27 : decode cX7_worst 27 = .ok (.istore 5, 2) := by decide +kernel
theorem dX7_worst_29 : decode cX7_worst 29 = .ok (.iload 5, 2) := by decide +kernel
theorem dX7_worst_31 : decode cX7_worst 31 = .ok (.aload_n 0, 1) := by decide +kernel
theorem dX7_worst_32 : decode cX7_worst 32 = .ok (.getfield 30, 3) := by decide +kernel
theorem dX7_worst_35 : decode cX7_worst 35 = .ok (.invokevirtual 97, 3) := by decide +kernel
theorem dX7_worst_38 : decode cX7_worst 38 = .ok (.if_icmp .ge 51, 3) := by decide +kernel
theorem dX7_worst_41 : decode cX7_worst 41 = .ok (.aload_n 0, 1) := by decide +kernel
theorem dX7_worst_42 : decode cX7_worst 42 = .ok (.iload 5, 2) := by decide +kernel
theorem dX7_worst_44 : decode cX7_worst 44 = .ok (.iload_n 1, 1) := by decide +kernel
theorem dX7_worst_45 : decode cX7_worst 45 = .ok (.invokevirtual 319, 3) := by decide +kernel
theorem dX7_worst_48 : decode cX7_worst 48 = .ok (.lstore 6, 2) := by decide +kernel
theorem dX7_worst_50 : decode cX7_worst 50 = .ok (.iload_n 1, 1) := by decide +kernel
theorem dX7_worst_51 : decode cX7_worst 51 = .ok (.iconst 2, 1) := by decide +kernel
theorem dX7_worst_52 : decode cX7_worst 52 = .ok (.if_icmp .ne 8, 3) := by decide +kernel
theorem dX7_worst_55 : decode cX7_worst 55 = .ok (.lload 6, 2) := by decide +kernel
theorem dX7_worst_57 : decode cX7_worst 57 = .ok (.goto 6, 3) := by decide +kernel
theorem dX7_worst_60 : decode cX7_worst 60 = .ok (.lload 6, 2) := by decide +kernel
theorem dX7_worst_62 : decode cX7_worst 62 = .ok (.lneg, 1) := by decide +kernel
theorem dX7_worst_63 : decode cX7_worst 63 = .ok (.lstore 8, 2) := by decide +kernel
theorem dX7_worst_65 : decode cX7_worst 65 = .ok (.iload_n 2, 1) := by decide +kernel
theorem dX7_worst_66 : decode cX7_worst 66 = .ok (.iconst (-1), 1) := by decide +kernel
theorem dX7_worst_67 : decode cX7_worst 67 = .ok (.if_icmp .eq 10, 3) := by decide +kernel
theorem dX7_worst_70 : decode cX7_worst 70 = .ok (.lload 8, 2) := by decide +kernel
theorem dX7_worst_72 : decode cX7_worst 72 = .ok (.lload_n 3, 1) := by decide +kernel
theorem dX7_worst_73 : decode cX7_worst 73 = .ok (.lcmp, 1) := by decide +kernel
theorem dX7_worst_74 : decode cX7_worst 74 = .ok (.ifCond .le 9, 3) := by decide +kernel
theorem dX7_worst_77 : decode cX7_worst 77 = .ok (.iload 5, 2) := by decide +kernel
theorem dX7_worst_79 : decode cX7_worst 79 = .ok (.istore_n 2, 1) := by decide +kernel
theorem dX7_worst_80 : decode cX7_worst 80 = .ok (.lload 8, 2) := by decide +kernel
theorem dX7_worst_82 : decode cX7_worst 82 = .ok (.lstore_n 3, 1) := by decide +kernel
theorem dX7_worst_83 : decode cX7_worst 83 = .ok (.iinc 5 1, 3) := by decide +kernel
theorem dX7_worst_86 : decode cX7_worst 86 = .ok (.goto (-57), 3) := by decide +kernel
theorem dX7_worst_89 : decode cX7_worst 89 = .ok (.iload_n 2, 1) := by decide +kernel
theorem dX7_worst_90 : decode cX7_worst 90 = .ok (.ireturn, 1) := by decide +kernel
noncomputable def fX7_worst_83 (k29 : (Nat → Int32) → (Nat → Int32) → (Nat → Int32) → Int32 → Int32 → Int32 → Int64 → Int32 → Option (Int32)) (t_now_cells : Nat → Int32) (t_now_rows : Nat → Int32) (t_now_sizes : Nat → Int32) (t_now_acts : Int32) (v1 : Int32) (v2 : Int32) (v3 : Int64) (v5 : Int32) : Option (Int32) := k29 t_now_cells t_now_rows t_now_sizes t_now_acts v1 v2 v3 (v5 + 1)
noncomputable def fX7_worst_77 (k29 : (Nat → Int32) → (Nat → Int32) → (Nat → Int32) → Int32 → Int32 → Int32 → Int64 → Int32 → Option (Int32)) (t_now_cells : Nat → Int32) (t_now_rows : Nat → Int32) (t_now_sizes : Nat → Int32) (t_now_acts : Int32) (v1 : Int32) (v5 : Int32) (v8 : Int64) : Option (Int32) := fX7_worst_83 k29 t_now_cells t_now_rows t_now_sizes t_now_acts v1 v5 v8 v5
noncomputable def fX7_worst_63 (k29 : (Nat → Int32) → (Nat → Int32) → (Nat → Int32) → Int32 → Int32 → Int32 → Int64 → Int32 → Option (Int32)) (t_now_cells : Nat → Int32) (t_now_rows : Nat → Int32) (t_now_sizes : Nat → Int32) (t_now_acts : Int32) (v1 : Int32) (v2 : Int32) (v3 : Int64) (v5 : Int32) (z0 : Int64) : Option (Int32) := (if v2 = (-1) then fX7_worst_77 k29 t_now_cells t_now_rows t_now_sizes t_now_acts v1 v5 z0 else (if (lg_cmp z0 v3) ≤ 0 then fX7_worst_83 k29 t_now_cells t_now_rows t_now_sizes t_now_acts v1 v2 v3 v5 else fX7_worst_77 k29 t_now_cells t_now_rows t_now_sizes t_now_acts v1 v5 z0))
noncomputable def fX7_worst_29  : Nat → (Nat → Int32) → (Nat → Int32) → (Nat → Int32) → Int32 → Int32 → Int32 → Int64 → Int32 → Option (Int32)
  | 0, _, _, _, _, _, _, _, _ => none
  | n + 1, t_now_cells, t_now_rows, t_now_sizes, t_now_acts, v1, v2, v3, v5 => (fX1_plies t_now_sizes t_now_acts).bind fun r4 => (if r4 ≤ v5 then some v2 else (fX7_leftWithout t_now_cells t_now_rows t_now_sizes t_now_acts v5 v1).bind fun r7 => (if v1 = 2 then fX7_worst_63 (fX7_worst_29 n) t_now_cells t_now_rows t_now_sizes t_now_acts v1 v2 v3 v5 r7 else fX7_worst_63 (fX7_worst_29 n) t_now_cells t_now_rows t_now_sizes t_now_acts v1 v2 v3 v5 (-r7)))
theorem fX7_worst_29_z  (t_now_cells : Nat → Int32) (t_now_rows : Nat → Int32) (t_now_sizes : Nat → Int32) (t_now_acts : Int32) (v1 : Int32) (v2 : Int32) (v3 : Int64) (v5 : Int32) : fX7_worst_29  0 t_now_cells t_now_rows t_now_sizes t_now_acts v1 v2 v3 v5 = none := rfl
theorem fX7_worst_29_s  (n : Nat) (t_now_cells : Nat → Int32) (t_now_rows : Nat → Int32) (t_now_sizes : Nat → Int32) (t_now_acts : Int32) (v1 : Int32) (v2 : Int32) (v3 : Int64) (v5 : Int32) : fX7_worst_29  (n + 1) t_now_cells t_now_rows t_now_sizes t_now_acts v1 v2 v3 v5 = (fX1_plies t_now_sizes t_now_acts).bind fun r4 => (if r4 ≤ v5 then some v2 else (fX7_leftWithout t_now_cells t_now_rows t_now_sizes t_now_acts v5 v1).bind fun r7 => (if v1 = 2 then fX7_worst_63 (fX7_worst_29 n) t_now_cells t_now_rows t_now_sizes t_now_acts v1 v2 v3 v5 r7 else fX7_worst_63 (fX7_worst_29 n) t_now_cells t_now_rows t_now_sizes t_now_acts v1 v2 v3 v5 (-r7))) := rfl
noncomputable def fX7_worst  (t_now_cells : Nat → Int32) (t_now_rows : Nat → Int32) (t_now_sizes : Nat → Int32) (t_now_told : Int32) (t_now_acts : Int32) (v1 : Int32) : Option (Int32) := (if t_now_told = 0 then some (-2) else (if v1 < 0 then some (-2) else (if v1 ≤ 2 then fX7_worst_29 FU t_now_cells t_now_rows t_now_sizes t_now_acts v1 (-1) 0 0 else some (-2))))
set_option maxHeartbeats 4000000 in
set_option maxRecDepth 100000 in
theorem ctX7_worst (l : Launch) (g : GT) (a_t : Nat → Nat) (a_t_tape : Nat → Nat) (a_t_reader : Nat → Nat) (a_t_now : Nat → Nat) (a_t_choices : Nat → Nat) (a_t_ways : Nat → Nat) (a_t_stress : Nat → Nat) (t_now_told : Int32) (t_now_lines : Int32) (t_now_kinds : Int32) (t_now_acts : Int32) (t_now_cells : Nat → Int32) (t_now_rows : Nat → Int32) (t_now_sizes : Nat → Int32) (v1 : Int32) (o : Int32) (h : fX7_worst t_now_cells t_now_rows t_now_sizes t_now_told t_now_acts v1 = some o) : Met l yX7_worst (Cond.code yX7_worst cX7_worst 10 (some .int) :: Tw) ⟨5, 0, 0, 120⟩ (va_Pc [.ref ((a_t 0)), .int v1] (roB g [((a_t 0), .inr (6, [.ref (a_t_tape 0), .ref (a_t_reader 0), .ref (a_t_now 0), .ref (a_t 4), .ref (a_t_choices 0), .ref (a_t_ways 0), .ref (a_t_stress 0)])), ((a_t_now 0), .inr (1, [.ref (a_t_now 1), .ref (a_t_now 2), .ref (a_t_now 3), .ref (a_t_now 4), .ref (a_t_now 5), .int t_now_told, .int t_now_lines, .int t_now_kinds, .int t_now_acts])), ((a_t_now 2), .inl (g.2.2.1 0, 144, .inl t_now_cells)), ((a_t_now 3), .inl (g.2.2.1 0, 31, .inl t_now_rows)), ((a_t_now 4), .inl (g.2.2.1 0, 31, .inl t_now_sizes))])) (vp_Si (fun x => x = o)) 0 0 (fun _ => False) := by
  refine ro_meti (by decide) (Nat.le_of_ble_eq_true rfl) (lv0 := [(0, .ref ((a_t 0))), (1, .int v1)]) rfl ?_
  intro p e s m args below meth c ls Q cx hret hG hP hl
  have hx := cx.1
  have hb := cx.2.1
  have hG0 := hG
  have w83 : ∀ (k29 : (Nat → Int32) → (Nat → Int32) → (Nat → Int32) → Int32 → Int32 → Int32 → Int64 → Int32 → Option (Int32)) (hk29 : ∀ (v1 : Int32) (v2 : Int32) (v3 : Int64) (v5 : Int32) (ls : Array Slot), lv_has ls 10 [(0, .ref ((a_t 0))), (1, .int v1), (2, .int v2), (3, .long v3), (5, .int v5)] → k29 t_now_cells t_now_rows t_now_sizes t_now_acts v1 v2 v3 v5 = some o → W p l e ⟨5, 0, 0, 120⟩ s m args below meth c s.heap [] 0 0 Q (F0 m 29 ls [])) (v1 : Int32) (v2 : Int32) (v3 : Int64) (v5 : Int32) (ls : Array Slot), lv_has ls 10 [(0, .ref ((a_t 0))), (1, .int v1), (2, .int v2), (3, .long v3), (5, .int v5)] → fX7_worst_83 k29 t_now_cells t_now_rows t_now_sizes t_now_acts v1 v2 v3 v5 = some o → W p l e ⟨5, 0, 0, 120⟩ s m args below meth c s.heap [] 0 0 Q (F0 m 83 ls []) := by
    intro k29 hk29 v1 v2 v3 v5 ls hl h
    unfold fX7_worst_83 at h
    refine lv_iinc (v := v5 + 1) (lv' := [(5, .int (v5 + 1)), (0, .ref ((a_t 0))), (1, .int v1), (2, .int v2), (3, .long v3)]) hx hb dX7_worst_83 hl (k := 4) rfl rfl (by decide) rfl (fun ls hl => ?_)
    refine lv_goto (tgt := 29) hx hb dX7_worst_86 (by decide) ?_
    exact hk29 v1 v2 v3 (v5 + 1) _ (lv_sub hl [1, 2, 3, 4, 0] rfl) h
  have w77 : ∀ (k29 : (Nat → Int32) → (Nat → Int32) → (Nat → Int32) → Int32 → Int32 → Int32 → Int64 → Int32 → Option (Int32)) (hk29 : ∀ (v1 : Int32) (v2 : Int32) (v3 : Int64) (v5 : Int32) (ls : Array Slot), lv_has ls 10 [(0, .ref ((a_t 0))), (1, .int v1), (2, .int v2), (3, .long v3), (5, .int v5)] → k29 t_now_cells t_now_rows t_now_sizes t_now_acts v1 v2 v3 v5 = some o → W p l e ⟨5, 0, 0, 120⟩ s m args below meth c s.heap [] 0 0 Q (F0 m 29 ls [])) (v1 : Int32) (v5 : Int32) (v8 : Int64) (ls : Array Slot), lv_has ls 10 [(0, .ref ((a_t 0))), (1, .int v1), (5, .int v5), (8, .long v8)] → fX7_worst_77 k29 t_now_cells t_now_rows t_now_sizes t_now_acts v1 v5 v8 = some o → W p l e ⟨5, 0, 0, 120⟩ s m args below meth c s.heap [] 0 0 Q (F0 m 77 ls []) := by
    intro k29 hk29 v1 v5 v8 ls hl h
    unfold fX7_worst_77 at h
    refine lv_iload hx hb dX7_worst_77 (lv_at hl 2 rfl) ?_
    refine lv_istore_n (lv' := [(2, .int v5), (0, .ref ((a_t 0))), (1, .int v1), (5, .int v5), (8, .long v8)]) hx hb dX7_worst_79 rfl hl (by decide) rfl (fun ls hl => ?_)
    refine lv_lload hx hb dX7_worst_80 (lv_at hl 4 rfl) ?_
    refine lv_lstore_n (lv' := [(3, .long v8), (2, .int v5), (0, .ref ((a_t 0))), (1, .int v1), (5, .int v5), (8, .long v8)]) hx hb dX7_worst_82 rfl hl (by decide) rfl (fun ls hl => ?_)
    exact w83 _ hk29 v1 v5 v8 v5 _ (lv_sub hl [2, 3, 1, 0, 4] rfl) h
  have w63 : ∀ (k29 : (Nat → Int32) → (Nat → Int32) → (Nat → Int32) → Int32 → Int32 → Int32 → Int64 → Int32 → Option (Int32)) (hk29 : ∀ (v1 : Int32) (v2 : Int32) (v3 : Int64) (v5 : Int32) (ls : Array Slot), lv_has ls 10 [(0, .ref ((a_t 0))), (1, .int v1), (2, .int v2), (3, .long v3), (5, .int v5)] → k29 t_now_cells t_now_rows t_now_sizes t_now_acts v1 v2 v3 v5 = some o → W p l e ⟨5, 0, 0, 120⟩ s m args below meth c s.heap [] 0 0 Q (F0 m 29 ls [])) (v1 : Int32) (v2 : Int32) (v3 : Int64) (v5 : Int32) (z0 : Int64) (ls : Array Slot), lv_has ls 10 [(0, .ref ((a_t 0))), (1, .int v1), (2, .int v2), (3, .long v3), (5, .int v5)] → fX7_worst_63 k29 t_now_cells t_now_rows t_now_sizes t_now_acts v1 v2 v3 v5 z0 = some o → W p l e ⟨5, 0, 0, 120⟩ s m args below meth c s.heap [] 0 0 Q (F0 m 63 ls [.long z0]) := by
    intro k29 hk29 v1 v2 v3 v5 z0 ls hl h
    unfold fX7_worst_63 at h
    refine lv_lstore (lv' := [(8, .long z0), (0, .ref ((a_t 0))), (1, .int v1), (2, .int v2), (3, .long v3), (5, .int v5)]) hx hb dX7_worst_63 hl (by decide) rfl (fun ls hl => ?_)
    refine lv_iload_n hx hb dX7_worst_65 rfl (lv_at hl 3 rfl) ?_
    refine lv_iconst (v := -1) hx hb dX7_worst_66 (by decide) ?_
    refine lv_icmp_eq (tgt := 77) hx hb dX7_worst_67 (by decide) (fun c10 => ?_) (fun c10 => ?_)
    · have h := itp c10 h
      exact w77 _ hk29 v1 v5 z0 _ (lv_sub hl [1, 2, 5, 0] rfl) h
    · have h := itn c10 h
      refine lv_lload hx hb dX7_worst_70 (lv_at hl 0 rfl) ?_
      refine lv_lload_n hx hb dX7_worst_72 rfl (lv_at hl 4 rfl) ?_
      refine W.lcmp hx hb dX7_worst_73 ?_
      refine lv_if_le (tgt := 83) hx hb dX7_worst_74 (by decide) (fun c11 => ?_) (fun c11 => ?_)
      · have h := itp c11 h
        exact w83 _ hk29 v1 v2 v3 v5 _ (lv_sub hl [1, 2, 3, 4, 5] rfl) h
      · have h := itn c11 h
        exact w77 _ hk29 v1 v5 z0 _ (lv_sub hl [1, 2, 5, 0] rfl) h
  have w29 : ∀ (n : Nat) (v1 : Int32) (v2 : Int32) (v3 : Int64) (v5 : Int32) (ls : Array Slot), lv_has ls 10 [(0, .ref ((a_t 0))), (1, .int v1), (2, .int v2), (3, .long v3), (5, .int v5)] → fX7_worst_29  n t_now_cells t_now_rows t_now_sizes t_now_acts v1 v2 v3 v5 = some o → W p l e ⟨5, 0, 0, 120⟩ s m args below meth c s.heap [] 0 0 Q (F0 m 29 ls []) := by
    intro n
    induction n with
    | zero => intro v1 v2 v3 v5 ls hl h; cases (fX7_worst_29_z  t_now_cells t_now_rows t_now_sizes t_now_acts v1 v2 v3 v5).symm.trans h
    | succ n ih =>
    intro v1 v2 v3 v5 ls hl h
    have h := (fX7_worst_29_s  n t_now_cells t_now_rows t_now_sizes t_now_acts v1 v2 v3 v5).symm.trans h
    refine lv_iload hx hb dX7_worst_29 (lv_at hl 4 rfl) ?_
    refine lv_aload_n hx hb dX7_worst_31 rfl (lv_at hl 0 rfl) ?_
    refine xa_get (C := RX7) (T := TX7) (N := 7) cx hG hP 0 rfl rfl uX7 2 (by decide) lf_X7_30 rfl dX7_worst_32 ?_
    obtain ⟨r4, hr5, h⟩ := bnd h
    refine ro_i (runVN (As := []) (rest := [.int v5]) hG cx hl.1 (ctX1_plies l g a_t_now t_now_told t_now_lines t_now_kinds t_now_acts t_now_sizes r4 hr5) kmX1_plies kvX1_plies nm_17 ⟨rfl, rfl⟩ ⟨Nat.le_of_ble_eq_true rfl, Nat.le_of_ble_eq_true rfl⟩ (roV (q0 := 1) (ci := 1) hG (hP.sub [1, 4] rfl) hP rfl rfl) rfl rfl (Nat.le_of_ble_eq_true rfl) dX7_worst_35 ⟨Nat.le_of_ble_eq_true rfl, Nat.le_of_ble_eq_true rfl⟩) ?_
    refine lv_icmp_ge (tgt := 89) hx hb dX7_worst_38 (by decide) (fun c6 => ?_) (fun c6 => ?_)
    · have h := itp c6 h
      refine lv_iload_n hx hb dX7_worst_89 rfl (lv_at hl 2 rfl) ?_
      exact hret _ _ _ dX7_worst_90 (Option.some.inj h)
    · have h := itn c6 h
      refine lv_aload_n hx hb dX7_worst_41 rfl (lv_at hl 0 rfl) ?_
      refine lv_iload hx hb dX7_worst_42 (lv_at hl 4 rfl) ?_
      refine lv_iload_n hx hb dX7_worst_44 rfl (lv_at hl 1 rfl) ?_
      obtain ⟨r7, hr8, h⟩ := bnd h
      refine ro_l (runV (As := [.int v5, .int v1]) (rest := []) cx hl.1 (ctX7_leftWithout l g a_t a_t_tape a_t_reader a_t_now a_t_choices a_t_ways a_t_stress t_now_told t_now_lines t_now_kinds t_now_acts t_now_cells t_now_rows t_now_sizes v5 v1 r7 hr8) kmX7_leftWithout kvX7_leftWithout lm_X7_319 ⟨rfl, rfl⟩ ⟨Nat.le_of_ble_eq_true rfl, Nat.le_of_ble_eq_true rfl⟩ (roV (q0 := 0) (ci := 6) hG (hP.sub [0, 1, 2, 3, 4] rfl) hP rfl rfl) rfl rfl (Nat.le_of_ble_eq_true rfl) dX7_worst_45 ⟨Nat.le_of_ble_eq_true rfl, Nat.le_of_ble_eq_true rfl⟩) ?_
      refine lv_lstore (lv' := [(6, .long r7), (0, .ref ((a_t 0))), (1, .int v1), (2, .int v2), (3, .long v3), (5, .int v5)]) hx hb dX7_worst_48 hl (by decide) rfl (fun ls hl => ?_)
      refine lv_iload_n hx hb dX7_worst_50 rfl (lv_at hl 2 rfl) ?_
      refine lv_iconst (v := 2) hx hb dX7_worst_51 (by decide) ?_
      refine lv_icmp_ne (tgt := 60) hx hb dX7_worst_52 (by decide) (fun c9 => ?_) (fun c9 => ?_)
      · have h := itn c9 h
        refine lv_lload hx hb dX7_worst_60 (lv_at hl 0 rfl) ?_
        refine lv_lneg hx hb dX7_worst_62 ?_
        exact w63 _ ih v1 v2 v3 v5 (-r7) _ (lv_sub hl [1, 2, 3, 4, 5] rfl) h
      · have h := itp c9 h
        refine lv_lload hx hb dX7_worst_55 (lv_at hl 0 rfl) ?_
        refine lv_goto (tgt := 63) hx hb dX7_worst_57 (by decide) ?_
        exact w63 _ ih v1 v2 v3 v5 r7 _ (lv_sub hl [1, 2, 3, 4, 5] rfl) h
  unfold fX7_worst at h
  refine lv_aload_n hx hb dX7_worst_0 rfl (lv_at hl 0 rfl) ?_
  refine xa_get (C := RX7) (T := TX7) (N := 7) cx hG hP 0 rfl rfl uX7 2 (by decide) lf_X7_30 rfl dX7_worst_1 ?_
  refine xa_getN (C := RX1) (T := TX1) (N := 9) cx hG hP 1 rfl rfl uX1 5 (by decide) nf_5 rfl dX7_worst_4 ?_
  refine lv_if_eq (tgt := 19) hx hb dX7_worst_7 (by decide) (fun c1 => ?_) (fun c1 => ?_)
  · have h := itp c1 h
    refine lv_bipush (v := -2) hx hb dX7_worst_19 (by decide) ?_
    exact hret _ _ _ dX7_worst_21 (Option.some.inj h)
  · have h := itn c1 h
    refine lv_iload_n hx hb dX7_worst_10 rfl (lv_at hl 1 rfl) ?_
    refine lv_if_lt (tgt := 19) hx hb dX7_worst_11 (by decide) (fun c2 => ?_) (fun c2 => ?_)
    · have h := itp c2 h
      refine lv_bipush (v := -2) hx hb dX7_worst_19 (by decide) ?_
      exact hret _ _ _ dX7_worst_21 (Option.some.inj h)
    · have h := itn c2 h
      refine lv_iload_n hx hb dX7_worst_14 rfl (lv_at hl 1 rfl) ?_
      refine lv_iconst (v := 2) hx hb dX7_worst_15 (by decide) ?_
      refine lv_icmp_le (tgt := 22) hx hb dX7_worst_16 (by decide) (fun c3 => ?_) (fun c3 => ?_)
      · have h := itp c3 h
        refine lv_iconst (v := -1) hx hb dX7_worst_22 (by decide) ?_
        refine lv_istore_n (lv' := [(2, .int (-1)), (0, .ref ((a_t 0))), (1, .int v1)]) hx hb dX7_worst_23 rfl hl (by decide) rfl (fun ls hl => ?_)
        refine lv_lconst (v := 0) hx hb dX7_worst_24 (by decide) ?_
        refine lv_lstore_n (lv' := [(3, .long (0)), (2, .int (-1)), (0, .ref ((a_t 0))), (1, .int v1)]) hx hb dX7_worst_25 rfl hl (by decide) rfl (fun ls hl => ?_)
        refine lv_iconst (v := 0) hx hb dX7_worst_26 (by decide) ?_
        refine lv_istore (lv' := [(5, .int (0)), (3, .long (0)), (2, .int (-1)), (0, .ref ((a_t 0))), (1, .int v1)]) hx hb dX7_worst_27 hl (by decide) rfl (fun ls hl => ?_)
        exact w29 FU v1 (-1) 0 0 _ (lv_sub hl [3, 4, 2, 1, 0] rfl) h
      · have h := itn c3 h
        refine lv_bipush (v := -2) hx hb dX7_worst_19 (by decide) ?_
        exact hret _ _ _ dX7_worst_21 (Option.some.inj h)
