theorem kcopy : Cond.native arraycopyName ∈ Tw ∧ Cond.static arraycopyName ∈ Tw ∧ Cond.initialized "java/lang/System" ∈ Tw := ⟨tw_of 553 (by decide +kernel) rfl, tw_of 552 (by decide +kernel) rfl, tw_of 173 (by decide +kernel) rfl⟩
theorem arI : Cond.arrayClass .int ∈ Tw := tw_of 250 (by decide +kernel) rfl
theorem arJ : Cond.arrayClass .long ∈ Tw := tw_of 313 (by decide +kernel) rfl
theorem cl_X0_133 : Cond.constantLong RX0 133 (1048576) ∈ Tw := tw_of 945 (by decide +kernel) rfl
theorem cl_X0_135 : Cond.constantLong RX0 135 (-7046029254386353131) ∈ Tw := tw_of 950 (by decide +kernel) rfl
theorem cl_X0_93 : Cond.constantLong RX0 93 (4294967295) ∈ Tw := tw_of 851 (by decide +kernel) rfl
theorem kmJ7_fill_d0a16 : KM yJ7_fill_d0a16 cJ7_fill_d0a16 5 none 2 := ⟨tw_of 940 (by decide +kernel) rfl, tw_of 175 (by decide +kernel) rfl, by decide⟩
theorem kmJ9_max_7cf53 : KM yJ9_max_7cf53 cJ9_max_7cf53 2 (some .int) 2 := ⟨tw_of 701 (by decide +kernel) rfl, tw_of 172 (by decide +kernel) rfl, by decide⟩
theorem kmJ9_min_7cf53 : KM yJ9_min_7cf53 cJ9_min_7cf53 2 (some .int) 2 := ⟨tw_of 485 (by decide +kernel) rfl, tw_of 172 (by decide +kernel) rfl, by decide⟩
theorem kmX0_bendKey : KM yX0_bendKey cX0_bendKey 8 (some .long) 2 := ⟨tw_of 944 (by decide +kernel) rfl, tw_of 164 (by decide +kernel) rfl, by decide⟩
theorem kmX0_howMany : KM yX0_howMany cX0_howMany 2 (some .int) 1 := ⟨tw_of 862 (by decide +kernel) rfl, tw_of 164 (by decide +kernel) rfl, by decide⟩
theorem kmX0_isAmong : KM yX0_isAmong cX0_isAmong 3 (some .boolean) 2 := ⟨tw_of 870 (by decide +kernel) rfl, tw_of 164 (by decide +kernel) rfl, by decide⟩
theorem kmX0_isNew : KM yX0_isNew cX0_isNew 6 (some .boolean) 1 := ⟨tw_of 949 (by decide +kernel) rfl, tw_of 164 (by decide +kernel) rfl, by decide⟩
theorem kmX0_lay : KM yX0_lay cX0_lay 17 none 7 := ⟨tw_of 839 (by decide +kernel) rfl, tw_of 164 (by decide +kernel) rfl, by decide⟩
theorem kmX0_mostRows : KM yX0_mostRows cX0_mostRows 4 (some .int) 0 := ⟨tw_of 834 (by decide +kernel) rfl, tw_of 164 (by decide +kernel) rfl, by decide⟩
theorem kmX0_placeAt : KM yX0_placeAt cX0_placeAt 5 (some .int) 2 := ⟨tw_of 866 (by decide +kernel) rfl, tw_of 164 (by decide +kernel) rfl, by decide⟩
theorem kmX0_prepare : KM yX0_prepare cX0_prepare 4 none 1 := ⟨tw_of 824 (by decide +kernel) rfl, tw_of 164 (by decide +kernel) rfl, by decide⟩
theorem kmX0_rowAt : KM yX0_rowAt cX0_rowAt 2 (some .int) 1 := ⟨tw_of 882 (by decide +kernel) rfl, tw_of 164 (by decide +kernel) rfl, by decide⟩
theorem kmX0_shapeOf : KM yX0_shapeOf cX0_shapeOf 6 (some .int) 4 := ⟨tw_of 843 (by decide +kernel) rfl, tw_of 164 (by decide +kernel) rfl, by decide⟩
theorem kmX0_store : KM yX0_store cX0_store 3 none 2 := ⟨tw_of 850 (by decide +kernel) rfl, tw_of 164 (by decide +kernel) rfl, by decide⟩
theorem kmX0_unlikeBends : KM yX0_unlikeBends cX0_unlikeBends 6 (some .int) 2 := ⟨tw_of 937 (by decide +kernel) rfl, tw_of 164 (by decide +kernel) rfl, by decide⟩
theorem kmX1_cellAt : KM yX1_cellAt cX1_cellAt 3 (some .int) 2 := ⟨tw_of 858 (by decide +kernel) rfl, tw_of 163 (by decide +kernel) rfl, by decide⟩
theorem kmX1_isPartOf : KM yX1_isPartOf cX1_isPartOf 2 (some .boolean) 1 := ⟨tw_of 1218 (by decide +kernel) rfl, tw_of 163 (by decide +kernel) rfl, by decide⟩
theorem kmX1_isRowFlat : KM yX1_isRowFlat cX1_isRowFlat 7 (some .boolean) 2 := ⟨tw_of 657 (by decide +kernel) rfl, tw_of 163 (by decide +kernel) rfl, by decide⟩
theorem kmX1_isRowStraight : KM yX1_isRowStraight cX1_isRowStraight 3 (some .boolean) 2 := ⟨tw_of 663 (by decide +kernel) rfl, tw_of 163 (by decide +kernel) rfl, by decide⟩
theorem kmX1_longestCommon : KM yX1_longestCommon cX1_longestCommon 8 (some .int) 1 := ⟨tw_of 1222 (by decide +kernel) rfl, tw_of 163 (by decide +kernel) rfl, by decide⟩
theorem kmX1_plies : KM yX1_plies cX1_plies 1 (some .int) 0 := ⟨tw_of 573 (by decide +kernel) rfl, tw_of 163 (by decide +kernel) rfl, by decide⟩
theorem kmX1_roomNow : KM yX1_roomNow cX1_roomNow 1 (some .int) 0 := ⟨tw_of 569 (by decide +kernel) rfl, tw_of 163 (by decide +kernel) rfl, by decide⟩
theorem kmX1_row : KM yX1_row cX1_row 1 (some .int) 0 := ⟨tw_of 589 (by decide +kernel) rfl, tw_of 163 (by decide +kernel) rfl, by decide⟩
theorem kmX1_totalOf : KM yX1_totalOf cX1_totalOf 11 (some .long) 5 := ⟨tw_of 641 (by decide +kernel) rfl, tw_of 163 (by decide +kernel) rfl, by decide⟩
theorem kmX1_typeAt : KM yX1_typeAt cX1_typeAt 2 (some .int) 1 := ⟨tw_of 609 (by decide +kernel) rfl, tw_of 163 (by decide +kernel) rfl, by decide⟩
theorem kmX3_angleAt : KM yX3_angleAt cX3_angleAt 2 (some .int) 2 := ⟨tw_of 698 (by decide +kernel) rfl, tw_of 174 (by decide +kernel) rfl, by decide⟩
theorem kmX3_farOf : KM yX3_farOf cX3_farOf 2 (some .int) 2 := ⟨tw_of 613 (by decide +kernel) rfl, tw_of 174 (by decide +kernel) rfl, by decide⟩
theorem kmX3_isMirrored : KM yX3_isMirrored cX3_isMirrored 3 (some .boolean) 2 := ⟨tw_of 653 (by decide +kernel) rfl, tw_of 174 (by decide +kernel) rfl, by decide⟩
theorem kmX3_sorted : KM yX3_sorted cX3_sorted 6 (some .int) 2 := ⟨tw_of 829 (by decide +kernel) rfl, tw_of 174 (by decide +kernel) rfl, by decide⟩
theorem kmX3_thickOf : KM yX3_thickOf cX3_thickOf 1 (some .int) 1 := ⟨tw_of 616 (by decide +kernel) rfl, tw_of 174 (by decide +kernel) rfl, by decide⟩
theorem kmX3_typeAt : KM yX3_typeAt cX3_typeAt 2 (some .int) 2 := ⟨tw_of 596 (by decide +kernel) rfl, tw_of 174 (by decide +kernel) rfl, by decide⟩
theorem kmX7_imagesBar : KM yX7_imagesBar cX7_imagesBar 3 (some .int) 2 := ⟨tw_of 1205 (by decide +kernel) rfl, tw_of 160 (by decide +kernel) rfl, by decide⟩
theorem kmX7_isImage : KM yX7_isImage cX7_isImage 1 (some .boolean) 1 := ⟨tw_of 1189 (by decide +kernel) rfl, tw_of 160 (by decide +kernel) rfl, by decide⟩
theorem kmX7_isMask : KM yX7_isMask cX7_isMask 2 (some .boolean) 1 := ⟨tw_of 820 (by decide +kernel) rfl, tw_of 160 (by decide +kernel) rfl, by decide⟩
theorem ksJ7_fill_d0a16 : Cond.static yJ7_fill_d0a16 ∈ Tw := tw_of 939 (by decide +kernel) rfl
theorem ksJ9_max_7cf53 : Cond.static yJ9_max_7cf53 ∈ Tw := tw_of 700 (by decide +kernel) rfl
theorem ksJ9_min_7cf53 : Cond.static yJ9_min_7cf53 ∈ Tw := tw_of 484 (by decide +kernel) rfl
theorem ksX3_angleAt : Cond.static yX3_angleAt ∈ Tw := tw_of 697 (by decide +kernel) rfl
theorem ksX3_farOf : Cond.static yX3_farOf ∈ Tw := tw_of 612 (by decide +kernel) rfl
theorem ksX3_isMirrored : Cond.static yX3_isMirrored ∈ Tw := tw_of 652 (by decide +kernel) rfl
theorem ksX3_sorted : Cond.static yX3_sorted ∈ Tw := tw_of 828 (by decide +kernel) rfl
theorem ksX3_thickOf : Cond.static yX3_thickOf ∈ Tw := tw_of 615 (by decide +kernel) rfl
theorem ksX3_typeAt : Cond.static yX3_typeAt ∈ Tw := tw_of 595 (by decide +kernel) rfl
theorem ksX7_isImage : Cond.static yX7_isImage ∈ Tw := tw_of 1188 (by decide +kernel) rfl
theorem kvX0_bendKey : KV yX0_bendKey := ⟨tw_of 943 (by decide +kernel) rfl, tw_of 72 (by decide +kernel) rfl⟩
theorem kvX0_howMany : KV yX0_howMany := ⟨tw_of 861 (by decide +kernel) rfl, tw_of 62 (by decide +kernel) rfl⟩
theorem kvX0_isAmong : KV yX0_isAmong := ⟨tw_of 869 (by decide +kernel) rfl, tw_of 64 (by decide +kernel) rfl⟩
theorem kvX0_isNew : KV yX0_isNew := ⟨tw_of 948 (by decide +kernel) rfl, tw_of 73 (by decide +kernel) rfl⟩
theorem kvX0_lay : KV yX0_lay := ⟨tw_of 838 (by decide +kernel) rfl, tw_of 58 (by decide +kernel) rfl⟩
theorem kvX0_mostRows : KV yX0_mostRows := ⟨tw_of 833 (by decide +kernel) rfl, tw_of 57 (by decide +kernel) rfl⟩
theorem kvX0_placeAt : KV yX0_placeAt := ⟨tw_of 865 (by decide +kernel) rfl, tw_of 63 (by decide +kernel) rfl⟩
theorem kvX0_prepare : KV yX0_prepare := ⟨tw_of 823 (by decide +kernel) rfl, tw_of 56 (by decide +kernel) rfl⟩
theorem kvX0_rowAt : KV yX0_rowAt := ⟨tw_of 881 (by decide +kernel) rfl, tw_of 66 (by decide +kernel) rfl⟩
theorem kvX0_shapeOf : KV yX0_shapeOf := ⟨tw_of 842 (by decide +kernel) rfl, tw_of 59 (by decide +kernel) rfl⟩
theorem kvX0_store : KV yX0_store := ⟨tw_of 849 (by decide +kernel) rfl, tw_of 60 (by decide +kernel) rfl⟩
theorem kvX0_unlikeBends : KV yX0_unlikeBends := ⟨tw_of 936 (by decide +kernel) rfl, tw_of 71 (by decide +kernel) rfl⟩
theorem kvX1_cellAt : KV yX1_cellAt := ⟨tw_of 857 (by decide +kernel) rfl, tw_of 61 (by decide +kernel) rfl⟩
theorem kvX1_isPartOf : KV yX1_isPartOf := ⟨tw_of 1217 (by decide +kernel) rfl, tw_of 96 (by decide +kernel) rfl⟩
theorem kvX1_isRowFlat : KV yX1_isRowFlat := ⟨tw_of 656 (by decide +kernel) rfl, tw_of 36 (by decide +kernel) rfl⟩
theorem kvX1_isRowStraight : KV yX1_isRowStraight := ⟨tw_of 662 (by decide +kernel) rfl, tw_of 37 (by decide +kernel) rfl⟩
theorem kvX1_longestCommon : KV yX1_longestCommon := ⟨tw_of 1221 (by decide +kernel) rfl, tw_of 97 (by decide +kernel) rfl⟩
theorem kvX1_plies : KV yX1_plies := ⟨tw_of 572 (by decide +kernel) rfl, tw_of 27 (by decide +kernel) rfl⟩
theorem kvX1_roomNow : KV yX1_roomNow := ⟨tw_of 568 (by decide +kernel) rfl, tw_of 26 (by decide +kernel) rfl⟩
theorem kvX1_row : KV yX1_row := ⟨tw_of 588 (by decide +kernel) rfl, tw_of 30 (by decide +kernel) rfl⟩
theorem kvX1_totalOf : KV yX1_totalOf := ⟨tw_of 640 (by decide +kernel) rfl, tw_of 34 (by decide +kernel) rfl⟩
theorem kvX1_typeAt : KV yX1_typeAt := ⟨tw_of 608 (by decide +kernel) rfl, tw_of 32 (by decide +kernel) rfl⟩
theorem kvX7_imagesBar : KV yX7_imagesBar := ⟨tw_of 1204 (by decide +kernel) rfl, tw_of 94 (by decide +kernel) rfl⟩
theorem kvX7_isMask : KV yX7_isMask := ⟨tw_of 819 (by decide +kernel) rfl, tw_of 55 (by decide +kernel) rfl⟩
theorem lf_X0_15 : Cond.fieldLink RX0 15 "PlyStacker$Orders" "seen" "[J" ∈ Tw := tw_of 292 (by decide +kernel) rfl
theorem lf_X0_18 : Cond.fieldLink RX0 18 "PlyStacker$Orders" "ready" "Z" ∈ Tw := tw_of 294 (by decide +kernel) rfl
theorem lf_X0_37 : Cond.fieldLink RX0 37 "PlyStacker$Orders" "pool" "I" ∈ Tw := tw_of 295 (by decide +kernel) rfl
theorem lf_X0_41 : Cond.fieldLink RX0 41 "PlyStacker$Orders" "plies" "I" ∈ Tw := tw_of 296 (by decide +kernel) rfl
theorem lf_X0_43 : Cond.fieldLink RX0 43 "PlyStacker$Orders" "room" "I" ∈ Tw := tw_of 297 (by decide +kernel) rfl
theorem lf_X0_49 : Cond.fieldLink RX0 49 "PlyStacker$Orders" "size" "I" ∈ Tw := tw_of 293 (by decide +kernel) rfl
theorem lf_X0_9 : Cond.fieldLink RX0 9 "PlyStacker$Orders" "rows" "[J" ∈ Tw := tw_of 291 (by decide +kernel) rfl
theorem lf_X1_108 : Cond.fieldLink RX1 108 "PlyStacker$Plate" "UPPER_CELLS" "[I" ∈ Tw := tw_of 658 (by decide +kernel) rfl
theorem lf_X1_15 : Cond.fieldLink RX1 15 "PlyStacker$Plate" "cells" "[I" ∈ Tw := tw_of 213 (by decide +kernel) rfl
theorem lf_X1_18 : Cond.fieldLink RX1 18 "PlyStacker$Plate" "rows" "[I" ∈ Tw := tw_of 214 (by decide +kernel) rfl
theorem lf_X1_21 : Cond.fieldLink RX1 21 "PlyStacker$Plate" "sizes" "[I" ∈ Tw := tw_of 216 (by decide +kernel) rfl
theorem lf_X1_24 : Cond.fieldLink RX1 24 "PlyStacker$Plate" "rooms" "[I" ∈ Tw := tw_of 218 (by decide +kernel) rfl
theorem lf_X1_38 : Cond.fieldLink RX1 38 "PlyStacker$Plate" "acts" "I" ∈ Tw := tw_of 229 (by decide +kernel) rfl
theorem lf_X7_30 : Cond.fieldLink RX7 30 "PlyStacker" "now" "LPlyStacker$Plate;" ∈ Tw := tw_of 349 (by decide +kernel) rfl
theorem lf_X7_34 : Cond.fieldLink RX7 34 "PlyStacker" "images" "[LPlyStacker$Plate;" ∈ Tw := tw_of 350 (by decide +kernel) rfl
theorem lf_X7_41 : Cond.fieldLink RX7 41 "PlyStacker" "choices" "LPlyStacker$Orders;" ∈ Tw := tw_of 351 (by decide +kernel) rfl
theorem lm_X0_101 : Cond.methodLink RX0 101 yX0_rowAt ∈ Tw := tw_of 892 (by decide +kernel) rfl
theorem lm_X0_119 : Cond.methodLink RX0 119 yJ7_fill_d0a16 ∈ Tw := tw_of 938 (by decide +kernel) rfl
theorem lm_X0_125 : Cond.methodLink RX0 125 yX0_bendKey ∈ Tw := tw_of 941 (by decide +kernel) rfl
theorem lm_X0_129 : Cond.methodLink RX0 129 yX0_isNew ∈ Tw := tw_of 946 (by decide +kernel) rfl
theorem lm_X0_52 : Cond.methodLink RX0 52 yX0_mostRows ∈ Tw := tw_of 831 (by decide +kernel) rfl
theorem lm_X0_55 : Cond.methodLink RX0 55 yX0_lay ∈ Tw := tw_of 836 (by decide +kernel) rfl
theorem lm_X0_62 : Cond.methodLink RX0 62 yX0_shapeOf ∈ Tw := tw_of 840 (by decide +kernel) rfl
theorem lm_X0_66 : Cond.methodLink RX0 66 yX0_store ∈ Tw := tw_of 847 (by decide +kernel) rfl
theorem lm_X0_95 : Cond.methodLink RX0 95 yX0_placeAt ∈ Tw := tw_of 863 (by decide +kernel) rfl
theorem lm_X0_98 : Cond.methodLink RX0 98 yX0_isAmong ∈ Tw := tw_of 867 (by decide +kernel) rfl
theorem lm_X1_127 : Cond.methodLink RX1 127 yX1_longestCommon ∈ Tw := tw_of 1219 (by decide +kernel) rfl
theorem lm_X1_131 : Cond.methodLink RX1 131 yX1_typeAt ∈ Tw := tw_of 1223 (by decide +kernel) rfl
theorem lm_X1_133 : Cond.methodLink RX1 133 yJ9_max_7cf53 ∈ Tw := tw_of 1224 (by decide +kernel) rfl
theorem lm_X1_136 : Cond.methodLink RX1 136 yJ9_min_7cf53 ∈ Tw := tw_of 1225 (by decide +kernel) rfl
theorem lm_X1_51 : Cond.methodLink RX1 51 yX1_plies ∈ Tw := tw_of 590 (by decide +kernel) rfl
theorem lm_X1_55 : Cond.methodLink RX1 55 yX1_row ∈ Tw := tw_of 586 (by decide +kernel) rfl
theorem lm_X1_80 : Cond.methodLink RX1 80 yX1_totalOf ∈ Tw := tw_of 638 (by decide +kernel) rfl
theorem lm_X3_9 : Cond.methodLink RX3 9 yX3_typeAt ∈ Tw := tw_of 594 (by decide +kernel) rfl
theorem lm_X7_239 : Cond.methodLink RX7 239 yX7_isMask ∈ Tw := tw_of 817 (by decide +kernel) rfl
theorem lm_X7_357 : Cond.methodLink RX7 357 yX7_isImage ∈ Tw := tw_of 1187 (by decide +kernel) rfl
theorem lm_X7_360 : Cond.methodLink RX7 360 yX7_imagesBar ∈ Tw := tw_of 1202 (by decide +kernel) rfl
theorem nf_5 : ("PlyStacker", 139, "PlyStacker$Plate", "told", "Z", "PlyStacker") ∈ nestF := List.mem_of_getElem? (i := 5) (by decide +kernel)
theorem nm_105 : ("PlyStacker", 367, yX1_isPartOf, "PlyStacker") ∈ nestM := List.mem_of_getElem? (i := 105) (by decide +kernel)
theorem nm_22 : ("PlyStacker$Plate", 58, yX3_typeAt, "PlyStacker") ∈ nestM := List.mem_of_getElem? (i := 22) (by decide +kernel)
theorem nm_28 : ("PlyStacker$Plate", 84, yX3_thickOf, "PlyStacker") ∈ nestM := List.mem_of_getElem? (i := 28) (by decide +kernel)
theorem nm_52 : ("PlyStacker", 242, yX0_prepare, "PlyStacker") ∈ nestM := List.mem_of_getElem? (i := 52) (by decide +kernel)
theorem nm_53 : ("PlyStacker$Orders", 22, yX1_row, "PlyStacker") ∈ nestM := List.mem_of_getElem? (i := 53) (by decide +kernel)
theorem nm_54 : ("PlyStacker$Orders", 28, yX1_plies, "PlyStacker") ∈ nestM := List.mem_of_getElem? (i := 54) (by decide +kernel)
theorem nm_55 : ("PlyStacker$Orders", 31, yX3_sorted, "PlyStacker") ∈ nestM := List.mem_of_getElem? (i := 55) (by decide +kernel)
theorem nm_56 : ("PlyStacker$Orders", 46, yX1_roomNow, "PlyStacker") ∈ nestM := List.mem_of_getElem? (i := 56) (by decide +kernel)
theorem nm_57 : ("PlyStacker$Orders", 59, yX3_typeAt, "PlyStacker") ∈ nestM := List.mem_of_getElem? (i := 57) (by decide +kernel)
theorem nm_58 : ("PlyStacker$Orders", 83, yX3_isMirrored, "PlyStacker") ∈ nestM := List.mem_of_getElem? (i := 58) (by decide +kernel)
theorem nm_59 : ("PlyStacker$Orders", 87, yX1_isRowFlat, "PlyStacker") ∈ nestM := List.mem_of_getElem? (i := 59) (by decide +kernel)
theorem nm_60 : ("PlyStacker$Orders", 90, yX1_isRowStraight, "PlyStacker") ∈ nestM := List.mem_of_getElem? (i := 60) (by decide +kernel)
theorem nm_61 : ("PlyStacker$Orders", 70, yX3_angleAt, "PlyStacker") ∈ nestM := List.mem_of_getElem? (i := 61) (by decide +kernel)
theorem nm_62 : ("PlyStacker$Orders", 73, yX3_farOf, "PlyStacker") ∈ nestM := List.mem_of_getElem? (i := 62) (by decide +kernel)
theorem nm_63 : ("PlyStacker$Orders", 76, yX3_thickOf, "PlyStacker") ∈ nestM := List.mem_of_getElem? (i := 63) (by decide +kernel)
theorem nm_64 : ("PlyStacker$Orders", 80, yX1_cellAt, "PlyStacker") ∈ nestM := List.mem_of_getElem? (i := 64) (by decide +kernel)
theorem nm_65 : ("PlyStacker", 245, yX0_howMany, "PlyStacker") ∈ nestM := List.mem_of_getElem? (i := 65) (by decide +kernel)
theorem nm_72 : ("PlyStacker$Orders", 107, yX1_totalOf, "PlyStacker") ∈ nestM := List.mem_of_getElem? (i := 72) (by decide +kernel)
theorem nm_78 : ("PlyStacker", 277, yX0_unlikeBends, "PlyStacker") ∈ nestM := List.mem_of_getElem? (i := 78) (by decide +kernel)
theorem uX0 : ∀ w ∈ u_ws RX0 TX0 7, w ∈ Tw := List.all_eq_true.mp (by decide +kernel : (u_ws RX0 TX0 7).all (fun w => decide (w ∈ Tw)) = true) |> fun h w hw => of_decide_eq_true (h w hw)
theorem uX1 : ∀ w ∈ u_ws RX1 TX1 9, w ∈ Tw := List.all_eq_true.mp (by decide +kernel : (u_ws RX1 TX1 9).all (fun w => decide (w ∈ Tw)) = true) |> fun h w hw => of_decide_eq_true (h w hw)
theorem uX7 : ∀ w ∈ u_ws RX7 TX7 7, w ∈ Tw := List.all_eq_true.mp (by decide +kernel : (u_ws RX7 TX7 7).all (fun w => decide (w ∈ Tw)) = true) |> fun h w hw => of_decide_eq_true (h w hw)
-- X7_isMask
theorem dX7_isMask_0 : decode cX7_isMask 0 = .ok (.aload_n 0, 1) := by decide +kernel
theorem dX7_isMask_1 : decode cX7_isMask 1 = .ok (.getfield 30, 3) := by decide +kernel
theorem dX7_isMask_4 : decode cX7_isMask 4 = .ok (.getfield 139, 3) := by decide +kernel
theorem dX7_isMask_7 : decode cX7_isMask 7 = .ok (.ifCond .eq 17, 3) := by decide +kernel
theorem dX7_isMask_10 : decode cX7_isMask 10 = .ok (.iload_n 1, 1) := by decide +kernel
theorem dX7_isMask_11 : decode cX7_isMask 11 = .ok (.ifCond .lt 13, 3) := by decide +kernel
theorem dX7_isMask_14 : decode cX7_isMask 14 = .ok (.iload_n 1, 1) := by decide +kernel
theorem dX7_isMask_15 : decode cX7_isMask 15 = .ok (.bipush 8, 2) := by decide +kernel
theorem dX7_isMask_17 : decode cX7_isMask 17 = .ok (.if_icmp .ge 7, 3) := by decide +kernel
theorem dX7_isMask_20 : decode cX7_isMask 20 = .ok (.iconst 1, 1) := by decide +kernel
theorem dX7_isMask_21 : decode cX7_isMask 21 = .ok (.goto 4, 3) := by decide +kernel
theorem dX7_isMask_24 : decode cX7_isMask 24 = .ok (.iconst 0, 1) := by decide +kernel
theorem dX7_isMask_25 : decode cX7_isMask 25 = .ok (.ireturn, 1) := by decide +kernel
noncomputable def fX7_isMask  (t_now_told : Int32) (v1 : Int32) : Int32 := (if t_now_told = 0 then (0) else (if v1 < 0 then (0) else (if 8 ≤ v1 then (0) else (1))))
set_option maxHeartbeats 4000000 in
set_option maxRecDepth 100000 in
theorem ctX7_isMask (l : Launch) (g : GT) (a_t : Nat → Nat) (a_t_tape : Nat → Nat) (a_t_reader : Nat → Nat) (a_t_now : Nat → Nat) (a_t_choices : Nat → Nat) (a_t_ways : Nat → Nat) (a_t_stress : Nat → Nat) (t_now_told : Int32) (t_now_lines : Int32) (t_now_kinds : Int32) (t_now_acts : Int32) (v1 : Int32) (o : Int32) (h : fX7_isMask t_now_told v1 = o) : Met l yX7_isMask (Cond.code yX7_isMask cX7_isMask 2 (some .boolean) :: Tw) ⟨0, 0, 0, 0⟩ (va_Pc [.ref ((a_t 0)), .int v1] (roB g [((a_t 0), .inr (6, [.ref (a_t_tape 0), .ref (a_t_reader 0), .ref (a_t_now 0), .ref (a_t 4), .ref (a_t_choices 0), .ref (a_t_ways 0), .ref (a_t_stress 0)])), ((a_t_now 0), .inr (1, [.ref (a_t_now 1), .ref (a_t_now 2), .ref (a_t_now 3), .ref (a_t_now 4), .ref (a_t_now 5), .int t_now_told, .int t_now_lines, .int t_now_kinds, .int t_now_acts]))])) (vp_Si (fun x => x = o ∧ (x = 0 ∨ x = 1))) 0 0 (fun _ => False) := by
  refine ro_metz (by decide) (Nat.le_of_ble_eq_true rfl) (lv0 := [(0, .ref ((a_t 0))), (1, .int v1)]) rfl ?_
  intro p e s m args below meth c ls Q cx hret hG hP hl
  have hx := cx.1
  have hb := cx.2.1
  have hG0 := hG
  unfold fX7_isMask at h
  refine lv_aload_n hx hb dX7_isMask_0 rfl (lv_at hl 0 rfl) ?_
  refine xa_get (C := RX7) (T := TX7) (N := 7) cx hG hP 0 rfl rfl uX7 2 (by decide) lf_X7_30 rfl dX7_isMask_1 ?_
  refine xa_getN (C := RX1) (T := TX1) (N := 9) cx hG hP 1 rfl rfl uX1 5 (by decide) nf_5 rfl dX7_isMask_4 ?_
  refine lv_if_eq (tgt := 24) hx hb dX7_isMask_7 (by decide) (fun c1 => ?_) (fun c1 => ?_)
  · have h := itp c1 h
    refine lv_iconst (v := 0) hx hb dX7_isMask_24 (by decide) ?_
    exact hret _ _ _ dX7_isMask_25 (by decide) h
  · have h := itn c1 h
    refine lv_iload_n hx hb dX7_isMask_10 rfl (lv_at hl 1 rfl) ?_
    refine lv_if_lt (tgt := 24) hx hb dX7_isMask_11 (by decide) (fun c2 => ?_) (fun c2 => ?_)
    · have h := itp c2 h
      refine lv_iconst (v := 0) hx hb dX7_isMask_24 (by decide) ?_
      exact hret _ _ _ dX7_isMask_25 (by decide) h
    · have h := itn c2 h
      refine lv_iload_n hx hb dX7_isMask_14 rfl (lv_at hl 1 rfl) ?_
      refine lv_bipush (v := 8) hx hb dX7_isMask_15 (by decide) ?_
      refine lv_icmp_ge (tgt := 24) hx hb dX7_isMask_17 (by decide) (fun c3 => ?_) (fun c3 => ?_)
      · have h := itp c3 h
        refine lv_iconst (v := 0) hx hb dX7_isMask_24 (by decide) ?_
        exact hret _ _ _ dX7_isMask_25 (by decide) h
      · have h := itn c3 h
        refine lv_iconst (v := 1) hx hb dX7_isMask_20 (by decide) ?_
        refine lv_goto (tgt := 25) hx hb dX7_isMask_21 (by decide) ?_
        exact hret _ _ _ dX7_isMask_25 (by decide) h
-- X1_row
theorem dX1_row_0 : decode cX1_row 0 = .ok (.aload_n 0, 1) := by decide +kernel
theorem dX1_row_1 : decode cX1_row 1 = .ok (.getfield 18, 3) := by decide +kernel
theorem dX1_row_4 : decode cX1_row 4 = .ok (.aload_n 0, 1) := by decide +kernel
theorem dX1_row_5 : decode cX1_row 5 = .ok (.getfield 38, 3) := by decide +kernel
theorem dX1_row_8 : decode cX1_row 8 = .ok (.iaload, 1) := by decide +kernel
theorem dX1_row_9 : decode cX1_row 9 = .ok (.ireturn, 1) := by decide +kernel
noncomputable def fX1_row  (t_rows : Nat → Int32) (t_acts : Int32) : Option (Int32) := chk 31 t_acts (some (t_rows t_acts.toNatClampNeg))
set_option maxHeartbeats 4000000 in
set_option maxRecDepth 100000 in
theorem ctX1_row (l : Launch) (g : GT) (a_t : Nat → Nat) (t_told : Int32) (t_lines : Int32) (t_kinds : Int32) (t_acts : Int32) (t_rows : Nat → Int32) (o : Int32) (h : fX1_row t_rows t_acts = some o) : Met l yX1_row (Cond.code yX1_row cX1_row 1 (some .int) :: Tw) ⟨0, 0, 0, 0⟩ (va_Pc [.ref ((a_t 0))] (roB g [((a_t 0), .inr (1, [.ref (a_t 1), .ref (a_t 2), .ref (a_t 3), .ref (a_t 4), .ref (a_t 5), .int t_told, .int t_lines, .int t_kinds, .int t_acts])), ((a_t 3), .inl (g.2.2.1 0, 31, .inl t_rows))])) (vp_Si (fun x => x = o)) 0 0 (fun _ => False) := by
  refine ro_meti (by decide) (Nat.le_of_ble_eq_true rfl) (lv0 := [(0, .ref ((a_t 0)))]) rfl ?_
  intro p e s m args below meth c ls Q cx hret hG hP hl
  have hx := cx.1
  have hb := cx.2.1
  have hG0 := hG
  unfold fX1_row at h
  refine lv_aload_n hx hb dX1_row_0 rfl (lv_at hl 0 rfl) ?_
  refine xa_get (C := RX1) (T := TX1) (N := 9) cx hG hP 0 rfl rfl uX1 2 (by decide) lf_X1_18 rfl dX1_row_1 ?_
  refine lv_aload_n hx hb dX1_row_4 rfl (lv_at hl 0 rfl) ?_
  refine xa_get (C := RX1) (T := TX1) (N := 9) cx hG hP 0 rfl rfl uX1 8 (by decide) lf_X1_38 rfl dX1_row_5 ?_
  obtain ⟨hi1, h⟩ := chk_out h
  refine xa_iald cx hG hP 1 rfl hi1 rfl dX1_row_8 ?_
  exact hret _ _ _ dX1_row_9 (Option.some.inj h)
-- X1_plies
theorem dX1_plies_0 : decode cX1_plies 0 = .ok (.aload_n 0, 1) := by decide +kernel
theorem dX1_plies_1 : decode cX1_plies 1 = .ok (.getfield 21, 3) := by decide +kernel
theorem dX1_plies_4 : decode cX1_plies 4 = .ok (.aload_n 0, 1) := by decide +kernel
theorem dX1_plies_5 : decode cX1_plies 5 = .ok (.getfield 38, 3) := by decide +kernel
theorem dX1_plies_8 : decode cX1_plies 8 = .ok (.iaload, 1) := by decide +kernel
theorem dX1_plies_9 : decode cX1_plies 9 = .ok (.ireturn, 1) := by decide +kernel
noncomputable def fX1_plies  (t_sizes : Nat → Int32) (t_acts : Int32) : Option (Int32) := chk 31 t_acts (some (t_sizes t_acts.toNatClampNeg))
set_option maxHeartbeats 4000000 in
set_option maxRecDepth 100000 in
theorem ctX1_plies (l : Launch) (g : GT) (a_t : Nat → Nat) (t_told : Int32) (t_lines : Int32) (t_kinds : Int32) (t_acts : Int32) (t_sizes : Nat → Int32) (o : Int32) (h : fX1_plies t_sizes t_acts = some o) : Met l yX1_plies (Cond.code yX1_plies cX1_plies 1 (some .int) :: Tw) ⟨0, 0, 0, 0⟩ (va_Pc [.ref ((a_t 0))] (roB g [((a_t 0), .inr (1, [.ref (a_t 1), .ref (a_t 2), .ref (a_t 3), .ref (a_t 4), .ref (a_t 5), .int t_told, .int t_lines, .int t_kinds, .int t_acts])), ((a_t 4), .inl (g.2.2.1 0, 31, .inl t_sizes))])) (vp_Si (fun x => x = o)) 0 0 (fun _ => False) := by
  refine ro_meti (by decide) (Nat.le_of_ble_eq_true rfl) (lv0 := [(0, .ref ((a_t 0)))]) rfl ?_
  intro p e s m args below meth c ls Q cx hret hG hP hl
  have hx := cx.1
  have hb := cx.2.1
  have hG0 := hG
  unfold fX1_plies at h
  refine lv_aload_n hx hb dX1_plies_0 rfl (lv_at hl 0 rfl) ?_
  refine xa_get (C := RX1) (T := TX1) (N := 9) cx hG hP 0 rfl rfl uX1 3 (by decide) lf_X1_21 rfl dX1_plies_1 ?_
  refine lv_aload_n hx hb dX1_plies_4 rfl (lv_at hl 0 rfl) ?_
  refine xa_get (C := RX1) (T := TX1) (N := 9) cx hG hP 0 rfl rfl uX1 8 (by decide) lf_X1_38 rfl dX1_plies_5 ?_
  obtain ⟨hi1, h⟩ := chk_out h
  refine xa_iald cx hG hP 1 rfl hi1 rfl dX1_plies_8 ?_
  exact hret _ _ _ dX1_plies_9 (Option.some.inj h)
-- X3_typeAt
theorem dX3_typeAt_0 : decode cX3_typeAt 0 = .ok (.iload_n 0, 1) := by decide +kernel
theorem dX3_typeAt_1 : decode cX3_typeAt 1 = .ok (.iconst 4, 1) := by decide +kernel
theorem dX3_typeAt_2 : decode cX3_typeAt 2 = .ok (.iload_n 1, 1) := by decide +kernel
theorem dX3_typeAt_3 : decode cX3_typeAt 3 = .ok (.imul, 1) := by decide +kernel
theorem dX3_typeAt_4 : decode cX3_typeAt 4 = .ok (.iushr, 1) := by decide +kernel
theorem dX3_typeAt_5 : decode cX3_typeAt 5 = .ok (.bipush 15, 2) := by decide +kernel
theorem dX3_typeAt_7 : decode cX3_typeAt 7 = .ok (.iand, 1) := by decide +kernel
theorem dX3_typeAt_8 : decode cX3_typeAt 8 = .ok (.ireturn, 1) := by decide +kernel
noncomputable def fX3_typeAt  (v0 : Int32) (v1 : Int32) : Int32 := ((iushr v0 (4 * v1)) &&& 15)
set_option maxHeartbeats 4000000 in
set_option maxRecDepth 100000 in
theorem ctX3_typeAt (l : Launch) (g : GT) (v0 : Int32) (v1 : Int32) (o : Int32) (h : fX3_typeAt v0 v1 = o) : Met l yX3_typeAt (Cond.code yX3_typeAt cX3_typeAt 2 (some .int) :: Tw) ⟨0, 0, 0, 0⟩ (va_Pc [.int v0, .int v1] (roB g [])) (vp_Si (fun x => x = o)) 0 0 (fun _ => False) := by
  refine ro_meti (by decide) (Nat.le_of_ble_eq_true rfl) (lv0 := [(0, .int v0), (1, .int v1)]) rfl ?_
  intro p e s m args below meth c ls Q cx hret hG hP hl
  have hx := cx.1
  have hb := cx.2.1
  have hG0 := hG
  unfold fX3_typeAt at h
  refine lv_iload_n hx hb dX3_typeAt_0 rfl (lv_at hl 0 rfl) ?_
  refine lv_iconst (v := 4) hx hb dX3_typeAt_1 (by decide) ?_
  refine lv_iload_n hx hb dX3_typeAt_2 rfl (lv_at hl 1 rfl) ?_
  refine lv_imul hx hb dX3_typeAt_3 ?_
  refine lv_iushr (v := iushr v0 (4 * v1)) hx hb dX3_typeAt_4 rfl ?_
  refine lv_bipush (v := 15) hx hb dX3_typeAt_5 (by decide) ?_
  refine lv_iand hx hb dX3_typeAt_7 ?_
  exact hret _ _ _ dX3_typeAt_8 h
-- X3_sorted
theorem dX3_sorted_0 : decode cX3_sorted 0 = .ok (.iconst 0, 1) := by decide +kernel
theorem dX3_sorted_1 : decode cX3_sorted 1 = .ok (.istore_n 2, 1) := by decide +kernel
theorem dX3_sorted_2 : decode cX3_sorted 2 = .ok (.iconst 0, 1) := by decide +kernel
theorem dX3_sorted_3 : decode cX3_sorted 3 = .ok (.istore_n 3, 1) := by decide +kernel
theorem dX3_sorted_4 : decode cX3_sorted 4 = .ok (.iconst 0, 1) := by decide +kernel
theorem dX3_sorted_5 : decode cX3_sorted 5 = .ok (.istore 4, 2) := by decide +kernel
theorem dX3_sorted_7 : decode cX3_sorted 7 = .ok (.iload 4, 2) := by decide +kernel
theorem dX3_sorted_9 : decode cX3_sorted 9 = .ok (.bipush 16, 2) := by decide +kernel
theorem dX3_sorted_11 : decode cX3_sorted 11 = .ok (.if_icmp .ge 47, 3) := by decide +kernel
theorem dX3_sorted_14 : decode cX3_sorted 14 = .ok (.iconst 0, 1) := by decide +kernel
theorem dX3_sorted_15 : decode cX3_sorted 15 = .ok (.istore 5, 2) := by decide +kernel
theorem dX3_sorted_17 : decode cX3_sorted 17 = .ok (.iload 5, 2) := by decide +kernel
theorem dX3_sorted_19 : decode cX3_sorted 19 = .ok (.iload_n 1, 1) := by decide +kernel
theorem dX3_sorted_20 : decode cX3_sorted 20 = .ok (.if_icmp .ge 32, 3) := by decide +kernel
theorem dX3_sorted_23 : decode cX3_sorted 23 = .ok (.iload_n 0, 1) := by decide +kernel
theorem dX3_sorted_24 : decode cX3_sorted 24 = .ok (.iload 5, 2) := by decide +kernel
theorem dX3_sorted_26 : decode cX3_sorted 26 = .ok (.invokestatic 9, 3) := by decide +kernel
theorem dX3_sorted_29 : decode cX3_sorted 29 = .ok (.iload 4, 2) := by decide +kernel
theorem dX3_sorted_31 : decode cX3_sorted 31 = .ok (.if_icmp .ne 15, 3) := by decide +kernel
theorem dX3_sorted_34 : decode cX3_sorted 34 = .ok (.iload_n 2, 1) := by decide +kernel
theorem dX3_sorted_35 : decode cX3_sorted 35 = .ok (.iload 4, 2) := by decide +kernel
theorem dX3_sorted_37 : decode cX3_sorted 37 = .ok (.iconst 4, 1) := by decide +kernel
theorem dX3_sorted_38 : decode cX3_sorted 38 = .ok (.iload_n 3, 1) := by decide +kernel
theorem dX3_sorted_39 : decode cX3_sorted 39 = .ok (.imul, 1) := by decide +kernel
theorem dX3_sorted_40 : decode cX3_sorted 40 = .ok (.ishl, 1) := by decide +kernel
theorem dX3_sorted_41 : decode cX3_sorted 41 = .ok (.ior, 1) := by decide +kernel
theorem dX3_sorted_42 : decode cX3_sorted 42 = .ok (.istore_n 2, 1) := by decide +kernel
theorem dX3_sorted_43 : decode cX3_sorted 43 = .ok (.iinc 3 1, 3) := by decide +kernel
theorem dX3_sorted_46 : decode cX3_sorted 46 = .ok (.iinc 5 1, 3) := by decide +kernel
theorem dX3_sorted_49 : decode cX3_sorted 49 = .ok (.goto (-32), 3) := by decide +kernel
theorem dX3_sorted_52 : decode cX3_sorted 52 = .ok (.iinc 4 1, 3) := by decide +kernel
theorem dX3_sorted_55 : decode cX3_sorted 55 = .ok (.goto (-48), 3) := by decide +kernel
theorem dX3_sorted_58 : decode cX3_sorted 58 = .ok (.iload_n 2, 1) := by decide +kernel
theorem dX3_sorted_59 : decode cX3_sorted 59 = .ok (.ireturn, 1) := by decide +kernel
noncomputable def fX3_sorted_46 (k7 : Int32 → Int32 → Int32 → Int32 → Int32 → Option (Int32)) (k17 : Int32 → Int32 → Int32 → Int32 → Int32 → Int32 → Option (Int32)) (v0 : Int32) (v1 : Int32) (v2 : Int32) (v3 : Int32) (v4 : Int32) (v5 : Int32) : Option (Int32) := k17 v0 v1 v2 v3 v4 (v5 + 1)
noncomputable def fX3_sorted_52 (k7 : Int32 → Int32 → Int32 → Int32 → Int32 → Option (Int32)) (v0 : Int32) (v1 : Int32) (v2 : Int32) (v3 : Int32) (v4 : Int32) : Option (Int32) := k7 v0 v1 v2 v3 (v4 + 1)
noncomputable def fX3_sorted_17 (k7 : Int32 → Int32 → Int32 → Int32 → Int32 → Option (Int32)) : Nat → Int32 → Int32 → Int32 → Int32 → Int32 → Int32 → Option (Int32)
  | 0, _, _, _, _, _, _ => none
  | n + 1, v0, v1, v2, v3, v4, v5 => (if v1 ≤ v5 then fX3_sorted_52 k7 v0 v1 v2 v3 v4 else (if (fX3_typeAt v0 v5) = v4 then fX3_sorted_46 k7 (fX3_sorted_17 k7 n) v0 v1 (v2 ||| (v4 <<< ((4 * v3) &&& 31))) (v3 + 1) v4 v5 else fX3_sorted_46 k7 (fX3_sorted_17 k7 n) v0 v1 v2 v3 v4 v5))
theorem fX3_sorted_17_z (k7 : Int32 → Int32 → Int32 → Int32 → Int32 → Option (Int32)) (v0 : Int32) (v1 : Int32) (v2 : Int32) (v3 : Int32) (v4 : Int32) (v5 : Int32) : fX3_sorted_17 k7 0 v0 v1 v2 v3 v4 v5 = none := rfl
theorem fX3_sorted_17_s (k7 : Int32 → Int32 → Int32 → Int32 → Int32 → Option (Int32)) (n : Nat) (v0 : Int32) (v1 : Int32) (v2 : Int32) (v3 : Int32) (v4 : Int32) (v5 : Int32) : fX3_sorted_17 k7 (n + 1) v0 v1 v2 v3 v4 v5 = (if v1 ≤ v5 then fX3_sorted_52 k7 v0 v1 v2 v3 v4 else (if (fX3_typeAt v0 v5) = v4 then fX3_sorted_46 k7 (fX3_sorted_17 k7 n) v0 v1 (v2 ||| (v4 <<< ((4 * v3) &&& 31))) (v3 + 1) v4 v5 else fX3_sorted_46 k7 (fX3_sorted_17 k7 n) v0 v1 v2 v3 v4 v5)) := rfl
noncomputable def fX3_sorted_7  : Nat → Int32 → Int32 → Int32 → Int32 → Int32 → Option (Int32)
  | 0, _, _, _, _, _ => none
  | n + 1, v0, v1, v2, v3, v4 => (if 16 ≤ v4 then some v2 else fX3_sorted_17 (fX3_sorted_7 n) FU v0 v1 v2 v3 v4 0)
theorem fX3_sorted_7_z  (v0 : Int32) (v1 : Int32) (v2 : Int32) (v3 : Int32) (v4 : Int32) : fX3_sorted_7  0 v0 v1 v2 v3 v4 = none := rfl
theorem fX3_sorted_7_s  (n : Nat) (v0 : Int32) (v1 : Int32) (v2 : Int32) (v3 : Int32) (v4 : Int32) : fX3_sorted_7  (n + 1) v0 v1 v2 v3 v4 = (if 16 ≤ v4 then some v2 else fX3_sorted_17 (fX3_sorted_7 n) FU v0 v1 v2 v3 v4 0) := rfl
noncomputable def fX3_sorted  (v0 : Int32) (v1 : Int32) : Option (Int32) := fX3_sorted_7 FU v0 v1 0 0 0
set_option maxHeartbeats 4000000 in
set_option maxRecDepth 100000 in
theorem ctX3_sorted (l : Launch) (g : GT) (v0 : Int32) (v1 : Int32) (o : Int32) (h : fX3_sorted v0 v1 = some o) : Met l yX3_sorted (Cond.code yX3_sorted cX3_sorted 6 (some .int) :: Tw) ⟨1, 0, 0, 21⟩ (va_Pc [.int v0, .int v1] (roB g [])) (vp_Si (fun x => x = o)) 0 0 (fun _ => False) := by
  refine ro_meti (by decide) (Nat.le_of_ble_eq_true rfl) (lv0 := [(0, .int v0), (1, .int v1)]) rfl ?_
  intro p e s m args below meth c ls Q cx hret hG hP hl
  have hx := cx.1
  have hb := cx.2.1
  have hG0 := hG
  have w46 : ∀ (k7 : Int32 → Int32 → Int32 → Int32 → Int32 → Option (Int32)) (hk7 : ∀ (v0 : Int32) (v1 : Int32) (v2 : Int32) (v3 : Int32) (v4 : Int32) (ls : Array Slot), lv_has ls 6 [(0, .int v0), (1, .int v1), (2, .int v2), (3, .int v3), (4, .int v4)] → k7 v0 v1 v2 v3 v4 = some o → W p l e ⟨1, 0, 0, 21⟩ s m args below meth c s.heap [] 0 0 Q (F0 m 7 ls [])) (k17 : Int32 → Int32 → Int32 → Int32 → Int32 → Int32 → Option (Int32)) (hk17 : ∀ (v0 : Int32) (v1 : Int32) (v2 : Int32) (v3 : Int32) (v4 : Int32) (v5 : Int32) (ls : Array Slot), lv_has ls 6 [(0, .int v0), (1, .int v1), (2, .int v2), (3, .int v3), (4, .int v4), (5, .int v5)] → k17 v0 v1 v2 v3 v4 v5 = some o → W p l e ⟨1, 0, 0, 21⟩ s m args below meth c s.heap [] 0 0 Q (F0 m 17 ls [])) (v0 : Int32) (v1 : Int32) (v2 : Int32) (v3 : Int32) (v4 : Int32) (v5 : Int32) (ls : Array Slot), lv_has ls 6 [(0, .int v0), (1, .int v1), (2, .int v2), (3, .int v3), (4, .int v4), (5, .int v5)] → fX3_sorted_46 k7 k17 v0 v1 v2 v3 v4 v5 = some o → W p l e ⟨1, 0, 0, 21⟩ s m args below meth c s.heap [] 0 0 Q (F0 m 46 ls []) := by
    intro k7 hk7 k17 hk17 v0 v1 v2 v3 v4 v5 ls hl h
    unfold fX3_sorted_46 at h
    refine lv_iinc (v := v5 + 1) (lv' := [(5, .int (v5 + 1)), (0, .int v0), (1, .int v1), (2, .int v2), (3, .int v3), (4, .int v4)]) hx hb dX3_sorted_46 hl (k := 5) rfl rfl (by decide) rfl (fun ls hl => ?_)
    refine lv_goto (tgt := 17) hx hb dX3_sorted_49 (by decide) ?_
    exact hk17 v0 v1 v2 v3 v4 (v5 + 1) _ (lv_sub hl [1, 2, 3, 4, 5, 0] rfl) h
  have w52 : ∀ (k7 : Int32 → Int32 → Int32 → Int32 → Int32 → Option (Int32)) (hk7 : ∀ (v0 : Int32) (v1 : Int32) (v2 : Int32) (v3 : Int32) (v4 : Int32) (ls : Array Slot), lv_has ls 6 [(0, .int v0), (1, .int v1), (2, .int v2), (3, .int v3), (4, .int v4)] → k7 v0 v1 v2 v3 v4 = some o → W p l e ⟨1, 0, 0, 21⟩ s m args below meth c s.heap [] 0 0 Q (F0 m 7 ls [])) (v0 : Int32) (v1 : Int32) (v2 : Int32) (v3 : Int32) (v4 : Int32) (ls : Array Slot), lv_has ls 6 [(0, .int v0), (1, .int v1), (2, .int v2), (3, .int v3), (4, .int v4)] → fX3_sorted_52 k7 v0 v1 v2 v3 v4 = some o → W p l e ⟨1, 0, 0, 21⟩ s m args below meth c s.heap [] 0 0 Q (F0 m 52 ls []) := by
    intro k7 hk7 v0 v1 v2 v3 v4 ls hl h
    unfold fX3_sorted_52 at h
    refine lv_iinc (v := v4 + 1) (lv' := [(4, .int (v4 + 1)), (0, .int v0), (1, .int v1), (2, .int v2), (3, .int v3)]) hx hb dX3_sorted_52 hl (k := 4) rfl rfl (by decide) rfl (fun ls hl => ?_)
    refine lv_goto (tgt := 7) hx hb dX3_sorted_55 (by decide) ?_
    exact hk7 v0 v1 v2 v3 (v4 + 1) _ (lv_sub hl [1, 2, 3, 4, 0] rfl) h
  have w17 : ∀ (k7 : Int32 → Int32 → Int32 → Int32 → Int32 → Option (Int32)) (hk7 : ∀ (v0 : Int32) (v1 : Int32) (v2 : Int32) (v3 : Int32) (v4 : Int32) (ls : Array Slot), lv_has ls 6 [(0, .int v0), (1, .int v1), (2, .int v2), (3, .int v3), (4, .int v4)] → k7 v0 v1 v2 v3 v4 = some o → W p l e ⟨1, 0, 0, 21⟩ s m args below meth c s.heap [] 0 0 Q (F0 m 7 ls [])) (n : Nat) (v0 : Int32) (v1 : Int32) (v2 : Int32) (v3 : Int32) (v4 : Int32) (v5 : Int32) (ls : Array Slot), lv_has ls 6 [(0, .int v0), (1, .int v1), (2, .int v2), (3, .int v3), (4, .int v4), (5, .int v5)] → fX3_sorted_17 k7 n v0 v1 v2 v3 v4 v5 = some o → W p l e ⟨1, 0, 0, 21⟩ s m args below meth c s.heap [] 0 0 Q (F0 m 17 ls []) := by
    intro k7 hk7 n
    induction n with
    | zero => intro v0 v1 v2 v3 v4 v5 ls hl h; cases (fX3_sorted_17_z k7 v0 v1 v2 v3 v4 v5).symm.trans h
    | succ n ih =>
    intro v0 v1 v2 v3 v4 v5 ls hl h
    have h := (fX3_sorted_17_s k7 n v0 v1 v2 v3 v4 v5).symm.trans h
    refine lv_iload hx hb dX3_sorted_17 (lv_at hl 5 rfl) ?_
    refine lv_iload_n hx hb dX3_sorted_19 rfl (lv_at hl 1 rfl) ?_
    refine lv_icmp_ge (tgt := 52) hx hb dX3_sorted_20 (by decide) (fun c2 => ?_) (fun c2 => ?_)
    · have h := itp c2 h
      exact w52 _ hk7 v0 v1 v2 v3 v4 _ (lv_sub hl [0, 1, 2, 3, 4] rfl) h
    · have h := itn c2 h
      refine lv_iload_n hx hb dX3_sorted_23 rfl (lv_at hl 0 rfl) ?_
      refine lv_iload hx hb dX3_sorted_24 (lv_at hl 5 rfl) ?_
      refine ro_i (runS (As := [.int v0, .int v5]) (rest := []) cx hl.1 (ctX3_typeAt l g v0 v5 (fX3_typeAt v0 v5) rfl) kmX3_typeAt ksX3_typeAt lm_X3_9 ⟨rfl, rfl⟩ ⟨Nat.le_of_ble_eq_true rfl, Nat.le_of_ble_eq_true rfl⟩ (roS hG (hP.sub [] rfl)) rfl rfl (Nat.le_of_ble_eq_true rfl) dX3_sorted_26 ⟨Nat.le_of_ble_eq_true rfl, Nat.le_of_ble_eq_true rfl⟩) ?_
      refine lv_iload hx hb dX3_sorted_29 (lv_at hl 4 rfl) ?_
      refine lv_icmp_ne (tgt := 46) hx hb dX3_sorted_31 (by decide) (fun c3 => ?_) (fun c3 => ?_)
      · have h := itn c3 h
        exact w46 _ hk7 _ ih v0 v1 v2 v3 v4 v5 _ (lv_sub hl [0, 1, 2, 3, 4, 5] rfl) h
      · have h := itp c3 h
        refine lv_iload_n hx hb dX3_sorted_34 rfl (lv_at hl 2 rfl) ?_
        refine lv_iload hx hb dX3_sorted_35 (lv_at hl 4 rfl) ?_
        refine lv_iconst (v := 4) hx hb dX3_sorted_37 (by decide) ?_
        refine lv_iload_n hx hb dX3_sorted_38 rfl (lv_at hl 3 rfl) ?_
        refine lv_imul hx hb dX3_sorted_39 ?_
        refine lv_ishl hx hb dX3_sorted_40 ?_
        refine lv_ior hx hb dX3_sorted_41 ?_
        refine lv_istore_n (lv' := [(2, .int (v2 ||| (v4 <<< ((4 * v3) &&& 31)))), (0, .int v0), (1, .int v1), (3, .int v3), (4, .int v4), (5, .int v5)]) hx hb dX3_sorted_42 rfl hl (by decide) rfl (fun ls hl => ?_)
        refine lv_iinc (v := v3 + 1) (lv' := [(3, .int (v3 + 1)), (2, .int (v2 ||| (v4 <<< ((4 * v3) &&& 31)))), (0, .int v0), (1, .int v1), (4, .int v4), (5, .int v5)]) hx hb dX3_sorted_43 hl (k := 3) rfl rfl (by decide) rfl (fun ls hl => ?_)
        exact w46 _ hk7 _ ih v0 v1 (v2 ||| (v4 <<< ((4 * v3) &&& 31))) (v3 + 1) v4 v5 _ (lv_sub hl [2, 3, 1, 0, 4, 5] rfl) h
  have w7 : ∀ (n : Nat) (v0 : Int32) (v1 : Int32) (v2 : Int32) (v3 : Int32) (v4 : Int32) (ls : Array Slot), lv_has ls 6 [(0, .int v0), (1, .int v1), (2, .int v2), (3, .int v3), (4, .int v4)] → fX3_sorted_7  n v0 v1 v2 v3 v4 = some o → W p l e ⟨1, 0, 0, 21⟩ s m args below meth c s.heap [] 0 0 Q (F0 m 7 ls []) := by
    intro n
    induction n with
    | zero => intro v0 v1 v2 v3 v4 ls hl h; cases (fX3_sorted_7_z  v0 v1 v2 v3 v4).symm.trans h
    | succ n ih =>
    intro v0 v1 v2 v3 v4 ls hl h
    have h := (fX3_sorted_7_s  n v0 v1 v2 v3 v4).symm.trans h
    refine lv_iload hx hb dX3_sorted_7 (lv_at hl 4 rfl) ?_
    refine lv_bipush (v := 16) hx hb dX3_sorted_9 (by decide) ?_
    refine lv_icmp_ge (tgt := 58) hx hb dX3_sorted_11 (by decide) (fun c1 => ?_) (fun c1 => ?_)
    · have h := itp c1 h
      refine lv_iload_n hx hb dX3_sorted_58 rfl (lv_at hl 2 rfl) ?_
      exact hret _ _ _ dX3_sorted_59 (Option.some.inj h)
    · have h := itn c1 h
      refine lv_iconst (v := 0) hx hb dX3_sorted_14 (by decide) ?_
      refine lv_istore (lv' := [(5, .int (0)), (0, .int v0), (1, .int v1), (2, .int v2), (3, .int v3), (4, .int v4)]) hx hb dX3_sorted_15 hl (by decide) rfl (fun ls hl => ?_)
      exact w17 _ ih FU v0 v1 v2 v3 v4 0 _ (lv_sub hl [1, 2, 3, 4, 5, 0] rfl) h
  unfold fX3_sorted at h
  refine lv_iconst (v := 0) hx hb dX3_sorted_0 (by decide) ?_
  refine lv_istore_n (lv' := [(2, .int (0)), (0, .int v0), (1, .int v1)]) hx hb dX3_sorted_1 rfl hl (by decide) rfl (fun ls hl => ?_)
  refine lv_iconst (v := 0) hx hb dX3_sorted_2 (by decide) ?_
  refine lv_istore_n (lv' := [(3, .int (0)), (2, .int (0)), (0, .int v0), (1, .int v1)]) hx hb dX3_sorted_3 rfl hl (by decide) rfl (fun ls hl => ?_)
  refine lv_iconst (v := 0) hx hb dX3_sorted_4 (by decide) ?_
  refine lv_istore (lv' := [(4, .int (0)), (3, .int (0)), (2, .int (0)), (0, .int v0), (1, .int v1)]) hx hb dX3_sorted_5 hl (by decide) rfl (fun ls hl => ?_)
  exact w7 FU v0 v1 0 0 0 _ (lv_sub hl [3, 4, 2, 1, 0] rfl) h
-- X1_roomNow
theorem dX1_roomNow_0 : decode cX1_roomNow 0 = .ok (.aload_n 0, 1) := by decide +kernel
theorem dX1_roomNow_1 : decode cX1_roomNow 1 = .ok (.getfield 24, 3) := by decide +kernel
theorem dX1_roomNow_4 : decode cX1_roomNow 4 = .ok (.aload_n 0, 1) := by decide +kernel
theorem dX1_roomNow_5 : decode cX1_roomNow 5 = .ok (.getfield 38, 3) := by decide +kernel
theorem dX1_roomNow_8 : decode cX1_roomNow 8 = .ok (.iaload, 1) := by decide +kernel
theorem dX1_roomNow_9 : decode cX1_roomNow 9 = .ok (.ireturn, 1) := by decide +kernel
noncomputable def fX1_roomNow  (t_rooms : Nat → Int32) (t_acts : Int32) : Option (Int32) := chk 31 t_acts (some (t_rooms t_acts.toNatClampNeg))
set_option maxHeartbeats 4000000 in
set_option maxRecDepth 100000 in
theorem ctX1_roomNow (l : Launch) (g : GT) (a_t : Nat → Nat) (t_told : Int32) (t_lines : Int32) (t_kinds : Int32) (t_acts : Int32) (t_rooms : Nat → Int32) (o : Int32) (h : fX1_roomNow t_rooms t_acts = some o) : Met l yX1_roomNow (Cond.code yX1_roomNow cX1_roomNow 1 (some .int) :: Tw) ⟨0, 0, 0, 0⟩ (va_Pc [.ref ((a_t 0))] (roB g [((a_t 0), .inr (1, [.ref (a_t 1), .ref (a_t 2), .ref (a_t 3), .ref (a_t 4), .ref (a_t 5), .int t_told, .int t_lines, .int t_kinds, .int t_acts])), ((a_t 5), .inl (g.2.2.1 0, 31, .inl t_rooms))])) (vp_Si (fun x => x = o)) 0 0 (fun _ => False) := by
  refine ro_meti (by decide) (Nat.le_of_ble_eq_true rfl) (lv0 := [(0, .ref ((a_t 0)))]) rfl ?_
  intro p e s m args below meth c ls Q cx hret hG hP hl
  have hx := cx.1
  have hb := cx.2.1
  have hG0 := hG
  unfold fX1_roomNow at h
  refine lv_aload_n hx hb dX1_roomNow_0 rfl (lv_at hl 0 rfl) ?_
  refine xa_get (C := RX1) (T := TX1) (N := 9) cx hG hP 0 rfl rfl uX1 4 (by decide) lf_X1_24 rfl dX1_roomNow_1 ?_
  refine lv_aload_n hx hb dX1_roomNow_4 rfl (lv_at hl 0 rfl) ?_
  refine xa_get (C := RX1) (T := TX1) (N := 9) cx hG hP 0 rfl rfl uX1 8 (by decide) lf_X1_38 rfl dX1_roomNow_5 ?_
  obtain ⟨hi1, h⟩ := chk_out h
  refine xa_iald cx hG hP 1 rfl hi1 rfl dX1_roomNow_8 ?_
  exact hret _ _ _ dX1_roomNow_9 (Option.some.inj h)
-- X0_mostRows
theorem dX0_mostRows_0 : decode cX0_mostRows 0 = .ok (.iconst 1, 1) := by decide +kernel
theorem dX0_mostRows_1 : decode cX0_mostRows 1 = .ok (.istore_n 1, 1) := by decide +kernel
theorem dX0_mostRows_2 : decode cX0_mostRows 2 = .ok (.iconst 0, 1) := by decide +kernel
theorem dX0_mostRows_3 : decode cX0_mostRows 3 = .ok (.istore_n 2, 1) := by decide +kernel
theorem dX0_mostRows_4 : decode cX0_mostRows 4 = .ok (.iconst 0, 1) := by decide +kernel
theorem dX0_mostRows_5 : decode cX0_mostRows 5 = .ok (.istore_n 3, 1) := by decide +kernel
theorem dX0_mostRows_6 : decode cX0_mostRows 6 = .ok (.iload_n 3, 1) := by decide +kernel
theorem dX0_mostRows_7 : decode cX0_mostRows 7 = .ok (.aload_n 0, 1) := by decide +kernel
theorem dX0_mostRows_8 : decode cX0_mostRows 8 = .ok (.getfield 41, 3) := by decide +kernel
theorem dX0_mostRows_11 : decode cX0_mostRows 11 = .ok (.if_icmp .ge 50, 3) := by decide +kernel
theorem dX0_mostRows_14 : decode cX0_mostRows 14 = .ok (.iload_n 3, 1) := by decide +kernel
theorem dX0_mostRows_15 : decode cX0_mostRows 15 = .ok (.ifCond .le 30, 3) := by decide +kernel
theorem dX0_mostRows_18 : decode cX0_mostRows 18 = .ok (.aload_n 0, 1) := by decide +kernel
theorem dX0_mostRows_19 : decode cX0_mostRows 19 = .ok (.getfield 37, 3) := by decide +kernel
theorem dX0_mostRows_22 : decode cX0_mostRows 22 = .ok (.iload_n 3, 1) := by decide +kernel
theorem dX0_mostRows_23 : decode cX0_mostRows 23 = .ok (.invokestatic 59, 3) := by decide +kernel
theorem dX0_mostRows_26 : decode cX0_mostRows 26 = .ok (.aload_n 0, 1) := by decide +kernel
theorem dX0_mostRows_27 : decode cX0_mostRows 27 = .ok (.getfield 37, 3) := by decide +kernel
theorem dX0_mostRows_30 : decode cX0_mostRows 30 = .ok (.iload_n 3, 1) := by decide +kernel
theorem dX0_mostRows_31 : decode cX0_mostRows 31 = .ok (.iconst 1, 1) := by decide +kernel
theorem dX0_mostRows_32 : decode cX0_mostRows 32 = .ok (.isub, 1) := by decide +kernel
theorem dX0_mostRows_33 : decode cX0_mostRows 33 = .ok (.invokestatic 59, 3) := by decide +kernel
theorem dX0_mostRows_36 : decode cX0_mostRows 36 = .ok (.if_icmp .ne 9, 3) := by decide +kernel
theorem dX0_mostRows_39 : decode cX0_mostRows 39 = .ok (.iload_n 2, 1) := by decide +kernel
theorem dX0_mostRows_40 : decode cX0_mostRows 40 = .ok (.iconst 1, 1) := by decide +kernel
theorem dX0_mostRows_41 : decode cX0_mostRows 41 = .ok (.iadd, 1) := by decide +kernel
theorem dX0_mostRows_42 : decode cX0_mostRows 42 = .ok (.goto 4, 3) := by decide +kernel
theorem dX0_mostRows_45 : decode cX0_mostRows 45 = .ok (.iconst 1, 1) := by decide +kernel
theorem dX0_mostRows_46 : decode cX0_mostRows 46 = .ok (.istore_n 2, 1) := by decide +kernel
theorem dX0_mostRows_47 : decode cX0_mostRows 47 = .ok (.iload_n 1, 1) := by decide +kernel
theorem dX0_mostRows_48 : decode cX0_mostRows 48 = .ok (.iload_n 3, 1) := by decide +kernel
theorem dX0_mostRows_49 : decode cX0_mostRows 49 = .ok (.iconst 1, 1) := by decide +kernel
theorem dX0_mostRows_50 : decode cX0_mostRows 50 = .ok (.iadd, 1) := by decide +kernel
theorem dX0_mostRows_51 : decode cX0_mostRows 51 = .ok (.imul, 1) := by decide +kernel
theorem dX0_mostRows_52 : decode cX0_mostRows 52 = .ok (.iload_n 2, 1) := by decide +kernel
theorem dX0_mostRows_53 : decode cX0_mostRows 53 = .ok (.idiv, 1) := by decide +kernel
theorem dX0_mostRows_54 : decode cX0_mostRows 54 = .ok (.istore_n 1, 1) := by decide +kernel
theorem dX0_mostRows_55 : decode cX0_mostRows 55 = .ok (.iinc 3 1, 3) := by decide +kernel
theorem dX0_mostRows_58 : decode cX0_mostRows 58 = .ok (.goto (-52), 3) := by decide +kernel
theorem dX0_mostRows_61 : decode cX0_mostRows 61 = .ok (.iload_n 1, 1) := by decide +kernel
theorem dX0_mostRows_62 : decode cX0_mostRows 62 = .ok (.ireturn, 1) := by decide +kernel
noncomputable def fX0_mostRows_46 (k6 : Int32 → Int32 → Int32 → Int32 → Int32 → Option (Int32)) (t_pool : Int32) (t_plies : Int32) (v1 : Int32) (v3 : Int32) (z0 : Int32) : Option (Int32) := nz z0 (k6 t_pool t_plies ((v1 * (v3 + 1)) / z0) z0 (v3 + 1))
noncomputable def fX0_mostRows_45 (k6 : Int32 → Int32 → Int32 → Int32 → Int32 → Option (Int32)) (t_pool : Int32) (t_plies : Int32) (v1 : Int32) (v3 : Int32) : Option (Int32) := fX0_mostRows_46 k6 t_pool t_plies v1 v3 1
noncomputable def fX0_mostRows_6  : Nat → Int32 → Int32 → Int32 → Int32 → Int32 → Option (Int32)
  | 0, _, _, _, _, _ => none
  | n + 1, t_pool, t_plies, v1, v2, v3 => (if t_plies ≤ v3 then some v1 else (if v3 ≤ 0 then fX0_mostRows_45 (fX0_mostRows_6 n) t_pool t_plies v1 v3 else (if (fX3_typeAt t_pool v3) = (fX3_typeAt t_pool (v3 - 1)) then fX0_mostRows_46 (fX0_mostRows_6 n) t_pool t_plies v1 v3 (v2 + 1) else fX0_mostRows_45 (fX0_mostRows_6 n) t_pool t_plies v1 v3)))
theorem fX0_mostRows_6_z  (t_pool : Int32) (t_plies : Int32) (v1 : Int32) (v2 : Int32) (v3 : Int32) : fX0_mostRows_6  0 t_pool t_plies v1 v2 v3 = none := rfl
theorem fX0_mostRows_6_s  (n : Nat) (t_pool : Int32) (t_plies : Int32) (v1 : Int32) (v2 : Int32) (v3 : Int32) : fX0_mostRows_6  (n + 1) t_pool t_plies v1 v2 v3 = (if t_plies ≤ v3 then some v1 else (if v3 ≤ 0 then fX0_mostRows_45 (fX0_mostRows_6 n) t_pool t_plies v1 v3 else (if (fX3_typeAt t_pool v3) = (fX3_typeAt t_pool (v3 - 1)) then fX0_mostRows_46 (fX0_mostRows_6 n) t_pool t_plies v1 v3 (v2 + 1) else fX0_mostRows_45 (fX0_mostRows_6 n) t_pool t_plies v1 v3))) := rfl
noncomputable def fX0_mostRows  (t_pool : Int32) (t_plies : Int32) : Option (Int32) := fX0_mostRows_6 FU t_pool t_plies 1 0 0
set_option maxHeartbeats 4000000 in
set_option maxRecDepth 100000 in
theorem ctX0_mostRows (l : Launch) (g : GT) (a_t : Nat → Nat) (b_t_rows : Nat) (b_t_seen : Nat) (t_size : Int32) (t_ready : Int32) (t_pool : Int32) (t_plies : Int32) (t_room : Int32) (o : Int32) (h : fX0_mostRows t_pool t_plies = some o) : Met l yX0_mostRows (Cond.code yX0_mostRows cX0_mostRows 4 (some .int) :: Tw) ⟨1, 0, 0, 21⟩ (va_Pc [.ref ((a_t 0))] (roB g [((a_t 0), .inr (0, [.ref b_t_rows, .ref b_t_seen, .int t_size, .int t_ready, .int t_pool, .int t_plies, .int t_room]))])) (vp_Si (fun x => x = o)) 0 0 (fun _ => False) := by
  refine ro_meti (by decide) (Nat.le_of_ble_eq_true rfl) (lv0 := [(0, .ref ((a_t 0)))]) rfl ?_
  intro p e s m args below meth c ls Q cx hret hG hP hl
  have hx := cx.1
  have hb := cx.2.1
  have hG0 := hG
  have w46 : ∀ (k6 : Int32 → Int32 → Int32 → Int32 → Int32 → Option (Int32)) (hk6 : ∀ (v1 : Int32) (v2 : Int32) (v3 : Int32) (ls : Array Slot), lv_has ls 4 [(0, .ref ((a_t 0))), (1, .int v1), (2, .int v2), (3, .int v3)] → k6 t_pool t_plies v1 v2 v3 = some o → W p l e ⟨1, 0, 0, 21⟩ s m args below meth c s.heap [] 0 0 Q (F0 m 6 ls [])) (v1 : Int32) (v3 : Int32) (z0 : Int32) (ls : Array Slot), lv_has ls 4 [(0, .ref ((a_t 0))), (1, .int v1), (3, .int v3)] → fX0_mostRows_46 k6 t_pool t_plies v1 v3 z0 = some o → W p l e ⟨1, 0, 0, 21⟩ s m args below meth c s.heap [] 0 0 Q (F0 m 46 ls [.int z0]) := by
    intro k6 hk6 v1 v3 z0 ls hl h
    unfold fX0_mostRows_46 at h
    refine lv_istore_n (lv' := [(2, .int z0), (0, .ref ((a_t 0))), (1, .int v1), (3, .int v3)]) hx hb dX0_mostRows_46 rfl hl (by decide) rfl (fun ls hl => ?_)
    refine lv_iload_n hx hb dX0_mostRows_47 rfl (lv_at hl 2 rfl) ?_
    refine lv_iload_n hx hb dX0_mostRows_48 rfl (lv_at hl 3 rfl) ?_
    refine lv_iconst (v := 1) hx hb dX0_mostRows_49 (by decide) ?_
    refine lv_iadd hx hb dX0_mostRows_50 ?_
    refine lv_imul hx hb dX0_mostRows_51 ?_
    refine lv_iload_n hx hb dX0_mostRows_52 rfl (lv_at hl 0 rfl) ?_
    obtain ⟨hz4, h⟩ := nz_out h
    refine lv_idiv hx hb dX0_mostRows_53 hz4 ?_
    refine lv_istore_n (lv' := [(1, .int ((v1 * (v3 + 1)) / z0)), (2, .int z0), (0, .ref ((a_t 0))), (3, .int v3)]) hx hb dX0_mostRows_54 rfl hl (by decide) rfl (fun ls hl => ?_)
    refine lv_iinc (v := v3 + 1) (lv' := [(3, .int (v3 + 1)), (1, .int ((v1 * (v3 + 1)) / z0)), (2, .int z0), (0, .ref ((a_t 0)))]) hx hb dX0_mostRows_55 hl (k := 3) rfl rfl (by decide) rfl (fun ls hl => ?_)
    refine lv_goto (tgt := 6) hx hb dX0_mostRows_58 (by decide) ?_
    exact hk6 ((v1 * (v3 + 1)) / z0) z0 (v3 + 1) _ (lv_sub hl [3, 1, 2, 0] rfl) h
  have w45 : ∀ (k6 : Int32 → Int32 → Int32 → Int32 → Int32 → Option (Int32)) (hk6 : ∀ (v1 : Int32) (v2 : Int32) (v3 : Int32) (ls : Array Slot), lv_has ls 4 [(0, .ref ((a_t 0))), (1, .int v1), (2, .int v2), (3, .int v3)] → k6 t_pool t_plies v1 v2 v3 = some o → W p l e ⟨1, 0, 0, 21⟩ s m args below meth c s.heap [] 0 0 Q (F0 m 6 ls [])) (v1 : Int32) (v3 : Int32) (ls : Array Slot), lv_has ls 4 [(0, .ref ((a_t 0))), (1, .int v1), (3, .int v3)] → fX0_mostRows_45 k6 t_pool t_plies v1 v3 = some o → W p l e ⟨1, 0, 0, 21⟩ s m args below meth c s.heap [] 0 0 Q (F0 m 45 ls []) := by
    intro k6 hk6 v1 v3 ls hl h
    unfold fX0_mostRows_45 at h
    refine lv_iconst (v := 1) hx hb dX0_mostRows_45 (by decide) ?_
    exact w46 _ hk6 v1 v3 1 _ (lv_sub hl [0, 1, 2] rfl) h
  have w6 : ∀ (n : Nat) (v1 : Int32) (v2 : Int32) (v3 : Int32) (ls : Array Slot), lv_has ls 4 [(0, .ref ((a_t 0))), (1, .int v1), (2, .int v2), (3, .int v3)] → fX0_mostRows_6  n t_pool t_plies v1 v2 v3 = some o → W p l e ⟨1, 0, 0, 21⟩ s m args below meth c s.heap [] 0 0 Q (F0 m 6 ls []) := by
    intro n
    induction n with
    | zero => intro v1 v2 v3 ls hl h; cases (fX0_mostRows_6_z  t_pool t_plies v1 v2 v3).symm.trans h
    | succ n ih =>
    intro v1 v2 v3 ls hl h
    have h := (fX0_mostRows_6_s  n t_pool t_plies v1 v2 v3).symm.trans h
    refine lv_iload_n hx hb dX0_mostRows_6 rfl (lv_at hl 3 rfl) ?_
    refine lv_aload_n hx hb dX0_mostRows_7 rfl (lv_at hl 0 rfl) ?_
    refine xa_get (C := RX0) (T := TX0) (N := 7) cx hG hP 0 rfl rfl uX0 5 (by decide) lf_X0_41 rfl dX0_mostRows_8 ?_
    refine lv_icmp_ge (tgt := 61) hx hb dX0_mostRows_11 (by decide) (fun c1 => ?_) (fun c1 => ?_)
    · have h := itp c1 h
      refine lv_iload_n hx hb dX0_mostRows_61 rfl (lv_at hl 1 rfl) ?_
      exact hret _ _ _ dX0_mostRows_62 (Option.some.inj h)
    · have h := itn c1 h
      refine lv_iload_n hx hb dX0_mostRows_14 rfl (lv_at hl 3 rfl) ?_
      refine lv_if_le (tgt := 45) hx hb dX0_mostRows_15 (by decide) (fun c2 => ?_) (fun c2 => ?_)
      · have h := itp c2 h
        exact w45 _ ih v1 v3 _ (lv_sub hl [0, 1, 3] rfl) h
      · have h := itn c2 h
        refine lv_aload_n hx hb dX0_mostRows_18 rfl (lv_at hl 0 rfl) ?_
        refine xa_get (C := RX0) (T := TX0) (N := 7) cx hG hP 0 rfl rfl uX0 4 (by decide) lf_X0_37 rfl dX0_mostRows_19 ?_
        refine lv_iload_n hx hb dX0_mostRows_22 rfl (lv_at hl 3 rfl) ?_
        refine ro_i (runSN (As := [.int t_pool, .int v3]) (rest := []) hG cx hl.1 (ctX3_typeAt l g t_pool v3 (fX3_typeAt t_pool v3) rfl) kmX3_typeAt ksX3_typeAt nm_57 ⟨rfl, rfl⟩ ⟨Nat.le_of_ble_eq_true rfl, Nat.le_of_ble_eq_true rfl⟩ (roS hG (hP.sub [] rfl)) rfl rfl (Nat.le_of_ble_eq_true rfl) dX0_mostRows_23 ⟨Nat.le_of_ble_eq_true rfl, Nat.le_of_ble_eq_true rfl⟩) ?_
        refine lv_aload_n hx hb dX0_mostRows_26 rfl (lv_at hl 0 rfl) ?_
        refine xa_get (C := RX0) (T := TX0) (N := 7) cx hG hP 0 rfl rfl uX0 4 (by decide) lf_X0_37 rfl dX0_mostRows_27 ?_
        refine lv_iload_n hx hb dX0_mostRows_30 rfl (lv_at hl 3 rfl) ?_
        refine lv_iconst (v := 1) hx hb dX0_mostRows_31 (by decide) ?_
        refine lv_isub hx hb dX0_mostRows_32 ?_
        refine ro_i (runSN (As := [.int t_pool, .int (v3 - 1)]) (rest := [.int (fX3_typeAt t_pool v3)]) hG cx hl.1 (ctX3_typeAt l g t_pool (v3 - 1) (fX3_typeAt t_pool (v3 - 1)) rfl) kmX3_typeAt ksX3_typeAt nm_57 ⟨rfl, rfl⟩ ⟨Nat.le_of_ble_eq_true rfl, Nat.le_of_ble_eq_true rfl⟩ (roS hG (hP.sub [] rfl)) rfl rfl (Nat.le_of_ble_eq_true rfl) dX0_mostRows_33 ⟨Nat.le_of_ble_eq_true rfl, Nat.le_of_ble_eq_true rfl⟩) ?_
        refine lv_icmp_ne (tgt := 45) hx hb dX0_mostRows_36 (by decide) (fun c3 => ?_) (fun c3 => ?_)
        · have h := itn c3 h
          exact w45 _ ih v1 v3 _ (lv_sub hl [0, 1, 3] rfl) h
        · have h := itp c3 h
          refine lv_iload_n hx hb dX0_mostRows_39 rfl (lv_at hl 2 rfl) ?_
          refine lv_iconst (v := 1) hx hb dX0_mostRows_40 (by decide) ?_
          refine lv_iadd hx hb dX0_mostRows_41 ?_
          refine lv_goto (tgt := 46) hx hb dX0_mostRows_42 (by decide) ?_
          exact w46 _ ih v1 v3 (v2 + 1) _ (lv_sub hl [0, 1, 3] rfl) h
  unfold fX0_mostRows at h
  refine lv_iconst (v := 1) hx hb dX0_mostRows_0 (by decide) ?_
  refine lv_istore_n (lv' := [(1, .int (1)), (0, .ref ((a_t 0)))]) hx hb dX0_mostRows_1 rfl hl (by decide) rfl (fun ls hl => ?_)
  refine lv_iconst (v := 0) hx hb dX0_mostRows_2 (by decide) ?_
  refine lv_istore_n (lv' := [(2, .int (0)), (1, .int (1)), (0, .ref ((a_t 0)))]) hx hb dX0_mostRows_3 rfl hl (by decide) rfl (fun ls hl => ?_)
  refine lv_iconst (v := 0) hx hb dX0_mostRows_4 (by decide) ?_
  refine lv_istore_n (lv' := [(3, .int (0)), (2, .int (0)), (1, .int (1)), (0, .ref ((a_t 0)))]) hx hb dX0_mostRows_5 rfl hl (by decide) rfl (fun ls hl => ?_)
  exact w6 FU 1 0 0 _ (lv_sub hl [3, 2, 1, 0] rfl) h
-- X3_isMirrored
theorem dX3_isMirrored_0 : decode cX3_isMirrored 0 = .ok (.iconst 0, 1) := by decide +kernel
theorem dX3_isMirrored_1 : decode cX3_isMirrored 1 = .ok (.istore_n 2, 1) := by decide +kernel
theorem dX3_isMirrored_2 : decode cX3_isMirrored 2 = .ok (.iload_n 2, 1) := by decide +kernel
theorem dX3_isMirrored_3 : decode cX3_isMirrored 3 = .ok (.iload_n 1, 1) := by decide +kernel
theorem dX3_isMirrored_4 : decode cX3_isMirrored 4 = .ok (.iconst 2, 1) := by decide +kernel
theorem dX3_isMirrored_5 : decode cX3_isMirrored 5 = .ok (.idiv, 1) := by decide +kernel
theorem dX3_isMirrored_6 : decode cX3_isMirrored 6 = .ok (.if_icmp .ge 28, 3) := by decide +kernel
theorem dX3_isMirrored_9 : decode cX3_isMirrored 9 = .ok (.iload_n 0, 1) := by decide +kernel
theorem dX3_isMirrored_10 : decode cX3_isMirrored 10 = .ok (.iload_n 2, 1) := by decide +kernel
theorem dX3_isMirrored_11 : decode cX3_isMirrored 11 = .ok (.invokestatic 9, 3) := by decide +kernel
theorem dX3_isMirrored_14 : decode cX3_isMirrored 14 = .ok (.iload_n 0, 1) := by decide +kernel
theorem dX3_isMirrored_15 : decode cX3_isMirrored 15 = .ok (.iload_n 1, 1) := by decide +kernel
theorem dX3_isMirrored_16 : decode cX3_isMirrored 16 = .ok (.iconst 1, 1) := by decide +kernel
theorem dX3_isMirrored_17 : decode cX3_isMirrored 17 = .ok (.isub, 1) := by decide +kernel
theorem dX3_isMirrored_18 : decode cX3_isMirrored 18 = .ok (.iload_n 2, 1) := by decide +kernel
theorem dX3_isMirrored_19 : decode cX3_isMirrored 19 = .ok (.isub, 1) := by decide +kernel
theorem dX3_isMirrored_20 : decode cX3_isMirrored 20 = .ok (.invokestatic 9, 3) := by decide +kernel
theorem dX3_isMirrored_23 : decode cX3_isMirrored 23 = .ok (.if_icmp .eq 5, 3) := by decide +kernel
theorem dX3_isMirrored_26 : decode cX3_isMirrored 26 = .ok (.iconst 0, 1) := by decide +kernel
theorem dX3_isMirrored_27 : decode cX3_isMirrored 27 = .ok (.ireturn, 1) := by decide +kernel
theorem dX3_isMirrored_28 : decode cX3_isMirrored 28 = .ok (.iinc 2 1, 3) := by decide +kernel
theorem dX3_isMirrored_31 : decode cX3_isMirrored 31 = .ok (.goto (-29), 3) := by decide +kernel
theorem dX3_isMirrored_34 : decode cX3_isMirrored 34 = .ok (.iconst 1, 1) := by decide +kernel
theorem dX3_isMirrored_35 : decode cX3_isMirrored 35 = .ok (.ireturn, 1) := by decide +kernel
noncomputable def fX3_isMirrored_2  : Nat → Int32 → Int32 → Int32 → Option (Int32)
  | 0, _, _, _ => none
  | n + 1, v0, v1, v2 => (if (v1 / 2) ≤ v2 then some (1) else (if (fX3_typeAt v0 v2) = (fX3_typeAt v0 ((v1 - 1) - v2)) then fX3_isMirrored_2 n v0 v1 (v2 + 1) else some (0)))
theorem fX3_isMirrored_2_z  (v0 : Int32) (v1 : Int32) (v2 : Int32) : fX3_isMirrored_2  0 v0 v1 v2 = none := rfl
theorem fX3_isMirrored_2_s  (n : Nat) (v0 : Int32) (v1 : Int32) (v2 : Int32) : fX3_isMirrored_2  (n + 1) v0 v1 v2 = (if (v1 / 2) ≤ v2 then some (1) else (if (fX3_typeAt v0 v2) = (fX3_typeAt v0 ((v1 - 1) - v2)) then fX3_isMirrored_2 n v0 v1 (v2 + 1) else some (0))) := rfl
noncomputable def fX3_isMirrored  (v0 : Int32) (v1 : Int32) : Option (Int32) := fX3_isMirrored_2 FU v0 v1 0
set_option maxHeartbeats 4000000 in
set_option maxRecDepth 100000 in
theorem ctX3_isMirrored (l : Launch) (g : GT) (v0 : Int32) (v1 : Int32) (o : Int32) (h : fX3_isMirrored v0 v1 = some o) : Met l yX3_isMirrored (Cond.code yX3_isMirrored cX3_isMirrored 3 (some .boolean) :: Tw) ⟨1, 0, 0, 21⟩ (va_Pc [.int v0, .int v1] (roB g [])) (vp_Si (fun x => x = o ∧ (x = 0 ∨ x = 1))) 0 0 (fun _ => False) := by
  refine ro_metz (by decide) (Nat.le_of_ble_eq_true rfl) (lv0 := [(0, .int v0), (1, .int v1)]) rfl ?_
  intro p e s m args below meth c ls Q cx hret hG hP hl
  have hx := cx.1
  have hb := cx.2.1
  have hG0 := hG
  have w2 : ∀ (n : Nat) (v0 : Int32) (v1 : Int32) (v2 : Int32) (ls : Array Slot), lv_has ls 3 [(0, .int v0), (1, .int v1), (2, .int v2)] → fX3_isMirrored_2  n v0 v1 v2 = some o → W p l e ⟨1, 0, 0, 21⟩ s m args below meth c s.heap [] 0 0 Q (F0 m 2 ls []) := by
    intro n
    induction n with
    | zero => intro v0 v1 v2 ls hl h; cases (fX3_isMirrored_2_z  v0 v1 v2).symm.trans h
    | succ n ih =>
    intro v0 v1 v2 ls hl h
    have h := (fX3_isMirrored_2_s  n v0 v1 v2).symm.trans h
    refine lv_iload_n hx hb dX3_isMirrored_2 rfl (lv_at hl 2 rfl) ?_
    refine lv_iload_n hx hb dX3_isMirrored_3 rfl (lv_at hl 1 rfl) ?_
    refine lv_iconst (v := 2) hx hb dX3_isMirrored_4 (by decide) ?_
    refine lv_idiv hx hb dX3_isMirrored_5 (by decide) ?_
    refine lv_icmp_ge (tgt := 34) hx hb dX3_isMirrored_6 (by decide) (fun c1 => ?_) (fun c1 => ?_)
    · have h := itp c1 h
      refine lv_iconst (v := 1) hx hb dX3_isMirrored_34 (by decide) ?_
      exact hret _ _ _ dX3_isMirrored_35 (by decide) (Option.some.inj h)
    · have h := itn c1 h
      refine lv_iload_n hx hb dX3_isMirrored_9 rfl (lv_at hl 0 rfl) ?_
      refine lv_iload_n hx hb dX3_isMirrored_10 rfl (lv_at hl 2 rfl) ?_
      refine ro_i (runS (As := [.int v0, .int v2]) (rest := []) cx hl.1 (ctX3_typeAt l g v0 v2 (fX3_typeAt v0 v2) rfl) kmX3_typeAt ksX3_typeAt lm_X3_9 ⟨rfl, rfl⟩ ⟨Nat.le_of_ble_eq_true rfl, Nat.le_of_ble_eq_true rfl⟩ (roS hG (hP.sub [] rfl)) rfl rfl (Nat.le_of_ble_eq_true rfl) dX3_isMirrored_11 ⟨Nat.le_of_ble_eq_true rfl, Nat.le_of_ble_eq_true rfl⟩) ?_
      refine lv_iload_n hx hb dX3_isMirrored_14 rfl (lv_at hl 0 rfl) ?_
      refine lv_iload_n hx hb dX3_isMirrored_15 rfl (lv_at hl 1 rfl) ?_
      refine lv_iconst (v := 1) hx hb dX3_isMirrored_16 (by decide) ?_
      refine lv_isub hx hb dX3_isMirrored_17 ?_
      refine lv_iload_n hx hb dX3_isMirrored_18 rfl (lv_at hl 2 rfl) ?_
      refine lv_isub hx hb dX3_isMirrored_19 ?_
      refine ro_i (runS (As := [.int v0, .int ((v1 - 1) - v2)]) (rest := [.int (fX3_typeAt v0 v2)]) cx hl.1 (ctX3_typeAt l g v0 ((v1 - 1) - v2) (fX3_typeAt v0 ((v1 - 1) - v2)) rfl) kmX3_typeAt ksX3_typeAt lm_X3_9 ⟨rfl, rfl⟩ ⟨Nat.le_of_ble_eq_true rfl, Nat.le_of_ble_eq_true rfl⟩ (roS hG (hP.sub [] rfl)) rfl rfl (Nat.le_of_ble_eq_true rfl) dX3_isMirrored_20 ⟨Nat.le_of_ble_eq_true rfl, Nat.le_of_ble_eq_true rfl⟩) ?_
      refine lv_icmp_eq (tgt := 28) hx hb dX3_isMirrored_23 (by decide) (fun c2 => ?_) (fun c2 => ?_)
      · have h := itp c2 h
        refine lv_iinc (v := v2 + 1) (lv' := [(2, .int (v2 + 1)), (0, .int v0), (1, .int v1)]) hx hb dX3_isMirrored_28 hl (k := 2) rfl rfl (by decide) rfl (fun ls hl => ?_)
        refine lv_goto (tgt := 2) hx hb dX3_isMirrored_31 (by decide) ?_
        exact ih v0 v1 (v2 + 1) _ (lv_sub hl [1, 2, 0] rfl) h
      · have h := itn c2 h
        refine lv_iconst (v := 0) hx hb dX3_isMirrored_26 (by decide) ?_
        exact hret _ _ _ dX3_isMirrored_27 (by decide) (Option.some.inj h)
  unfold fX3_isMirrored at h
  refine lv_iconst (v := 0) hx hb dX3_isMirrored_0 (by decide) ?_
  refine lv_istore_n (lv' := [(2, .int (0)), (0, .int v0), (1, .int v1)]) hx hb dX3_isMirrored_1 rfl hl (by decide) rfl (fun ls hl => ?_)
  exact w2 FU v0 v1 0 _ (lv_sub hl [1, 2, 0] rfl) h
-- X3_thickOf
theorem dX3_thickOf_0 : decode cX3_thickOf 0 = .ok (.iconst 3, 1) := by decide +kernel
theorem dX3_thickOf_1 : decode cX3_thickOf 1 = .ok (.iload_n 0, 1) := by decide +kernel
theorem dX3_thickOf_2 : decode cX3_thickOf 2 = .ok (.imul, 1) := by decide +kernel
theorem dX3_thickOf_3 : decode cX3_thickOf 3 = .ok (.iload_n 0, 1) := by decide +kernel
theorem dX3_thickOf_4 : decode cX3_thickOf 4 = .ok (.imul, 1) := by decide +kernel
theorem dX3_thickOf_5 : decode cX3_thickOf 5 = .ok (.iconst 1, 1) := by decide +kernel
theorem dX3_thickOf_6 : decode cX3_thickOf 6 = .ok (.iadd, 1) := by decide +kernel
theorem dX3_thickOf_7 : decode cX3_thickOf 7 = .ok (.ireturn, 1) := by decide +kernel
noncomputable def fX3_thickOf  (v0 : Int32) : Int32 := (((3 * v0) * v0) + 1)
set_option maxHeartbeats 4000000 in
set_option maxRecDepth 100000 in
theorem ctX3_thickOf (l : Launch) (g : GT) (v0 : Int32) (o : Int32) (h : fX3_thickOf v0 = o) : Met l yX3_thickOf (Cond.code yX3_thickOf cX3_thickOf 1 (some .int) :: Tw) ⟨0, 0, 0, 0⟩ (va_Pc [.int v0] (roB g [])) (vp_Si (fun x => x = o)) 0 0 (fun _ => False) := by
  refine ro_meti (by decide) (Nat.le_of_ble_eq_true rfl) (lv0 := [(0, .int v0)]) rfl ?_
  intro p e s m args below meth c ls Q cx hret hG hP hl
  have hx := cx.1
  have hb := cx.2.1
  have hG0 := hG
  unfold fX3_thickOf at h
  refine lv_iconst (v := 3) hx hb dX3_thickOf_0 (by decide) ?_
  refine lv_iload_n hx hb dX3_thickOf_1 rfl (lv_at hl 0 rfl) ?_
  refine lv_imul hx hb dX3_thickOf_2 ?_
  refine lv_iload_n hx hb dX3_thickOf_3 rfl (lv_at hl 0 rfl) ?_
  refine lv_imul hx hb dX3_thickOf_4 ?_
  refine lv_iconst (v := 1) hx hb dX3_thickOf_5 (by decide) ?_
  refine lv_iadd hx hb dX3_thickOf_6 ?_
  exact hret _ _ _ dX3_thickOf_7 h
-- X1_totalOf
theorem dX1_totalOf_0 : decode cX1_totalOf 0 = .ok (.iconst 0, 1) := by decide +kernel
theorem dX1_totalOf_1 : decode cX1_totalOf 1 = .ok (.istore 6, 2) := by decide +kernel
theorem dX1_totalOf_3 : decode cX1_totalOf 3 = .ok (.iload_n 1, 1) := by decide +kernel
theorem dX1_totalOf_4 : decode cX1_totalOf 4 = .ok (.istore 7, 2) := by decide +kernel
theorem dX1_totalOf_6 : decode cX1_totalOf 6 = .ok (.iconst 1, 1) := by decide +kernel
theorem dX1_totalOf_7 : decode cX1_totalOf 7 = .ok (.iload_n 2, 1) := by decide +kernel
theorem dX1_totalOf_8 : decode cX1_totalOf 8 = .ok (.isub, 1) := by decide +kernel
theorem dX1_totalOf_9 : decode cX1_totalOf 9 = .ok (.istore 8, 2) := by decide +kernel
theorem dX1_totalOf_11 : decode cX1_totalOf 11 = .ok (.iconst 0, 1) := by decide +kernel
theorem dX1_totalOf_12 : decode cX1_totalOf 12 = .ok (.istore 9, 2) := by decide +kernel
theorem dX1_totalOf_14 : decode cX1_totalOf 14 = .ok (.iload 9, 2) := by decide +kernel
theorem dX1_totalOf_16 : decode cX1_totalOf 16 = .ok (.iload_n 2, 1) := by decide +kernel
theorem dX1_totalOf_17 : decode cX1_totalOf 17 = .ok (.if_icmp .ge 87, 3) := by decide +kernel
theorem dX1_totalOf_20 : decode cX1_totalOf 20 = .ok (.iload_n 3, 1) := by decide +kernel
theorem dX1_totalOf_21 : decode cX1_totalOf 21 = .ok (.iload 9, 2) := by decide +kernel
theorem dX1_totalOf_23 : decode cX1_totalOf 23 = .ok (.ishr, 1) := by decide +kernel
theorem dX1_totalOf_24 : decode cX1_totalOf 24 = .ok (.iconst 1, 1) := by decide +kernel
theorem dX1_totalOf_25 : decode cX1_totalOf 25 = .ok (.iand, 1) := by decide +kernel
theorem dX1_totalOf_26 : decode cX1_totalOf 26 = .ok (.ifCond .ne 22, 3) := by decide +kernel
theorem dX1_totalOf_29 : decode cX1_totalOf 29 = .ok (.aload_n 0, 1) := by decide +kernel
theorem dX1_totalOf_30 : decode cX1_totalOf 30 = .ok (.getfield 15, 3) := by decide +kernel
theorem dX1_totalOf_33 : decode cX1_totalOf 33 = .ok (.iload 7, 2) := by decide +kernel
theorem dX1_totalOf_35 : decode cX1_totalOf 35 = .ok (.bipush 15, 2) := by decide +kernel
theorem dX1_totalOf_37 : decode cX1_totalOf 37 = .ok (.iand, 1) := by decide +kernel
theorem dX1_totalOf_38 : decode cX1_totalOf 38 = .ok (.bipush 9, 2) := by decide +kernel
theorem dX1_totalOf_40 : decode cX1_totalOf 40 = .ok (.imul, 1) := by decide +kernel
theorem dX1_totalOf_41 : decode cX1_totalOf 41 = .ok (.iload 5, 2) := by decide +kernel
theorem dX1_totalOf_43 : decode cX1_totalOf 43 = .ok (.iadd, 1) := by decide +kernel
theorem dX1_totalOf_44 : decode cX1_totalOf 44 = .ok (.iaload, 1) := by decide +kernel
theorem dX1_totalOf_45 : decode cX1_totalOf 45 = .ok (.goto 4, 3) := by decide +kernel
theorem dX1_totalOf_48 : decode cX1_totalOf 48 = .ok (.iconst 0, 1) := by decide +kernel
theorem dX1_totalOf_49 : decode cX1_totalOf 49 = .ok (.istore 10, 2) := by decide +kernel
theorem dX1_totalOf_51 : decode cX1_totalOf 51 = .ok (.iload 6, 2) := by decide +kernel
theorem dX1_totalOf_53 : decode cX1_totalOf 53 = .ok (.iload 4, 2) := by decide +kernel
theorem dX1_totalOf_55 : decode cX1_totalOf 55 = .ok (.iconst 2, 1) := by decide +kernel
theorem dX1_totalOf_56 : decode cX1_totalOf 56 = .ok (.if_icmp .ne 14, 3) := by decide +kernel
theorem dX1_totalOf_59 : decode cX1_totalOf 59 = .ok (.iload 8, 2) := by decide +kernel
theorem dX1_totalOf_61 : decode cX1_totalOf 61 = .ok (.invokestatic 84, 3) := by decide +kernel
theorem dX1_totalOf_64 : decode cX1_totalOf 64 = .ok (.iload 10, 2) := by decide +kernel
theorem dX1_totalOf_66 : decode cX1_totalOf 66 = .ok (.imul, 1) := by decide +kernel
theorem dX1_totalOf_67 : decode cX1_totalOf 67 = .ok (.goto 19, 3) := by decide +kernel
theorem dX1_totalOf_70 : decode cX1_totalOf 70 = .ok (.iload 4, 2) := by decide +kernel
theorem dX1_totalOf_72 : decode cX1_totalOf 72 = .ok (.iconst 1, 1) := by decide +kernel
theorem dX1_totalOf_73 : decode cX1_totalOf 73 = .ok (.if_icmp .ne 11, 3) := by decide +kernel
theorem dX1_totalOf_76 : decode cX1_totalOf 76 = .ok (.iload 8, 2) := by decide +kernel
theorem dX1_totalOf_78 : decode cX1_totalOf 78 = .ok (.iload 10, 2) := by decide +kernel
theorem dX1_totalOf_80 : decode cX1_totalOf 80 = .ok (.imul, 1) := by decide +kernel
theorem dX1_totalOf_81 : decode cX1_totalOf 81 = .ok (.goto 5, 3) := by decide +kernel
theorem dX1_totalOf_84 : decode cX1_totalOf 84 = .ok (.iload 10, 2) := by decide +kernel
theorem dX1_totalOf_86 : decode cX1_totalOf 86 = .ok (.iadd, 1) := by decide +kernel
theorem dX1_totalOf_87 : decode cX1_totalOf 87 = .ok (.istore 6, 2) := by decide +kernel
theorem dX1_totalOf_89 : decode cX1_totalOf 89 = .ok (.iload 7, 2) := by decide +kernel
theorem dX1_totalOf_91 : decode cX1_totalOf 91 = .ok (.iconst 4, 1) := by decide +kernel
theorem dX1_totalOf_92 : decode cX1_totalOf 92 = .ok (.iushr, 1) := by decide +kernel
theorem dX1_totalOf_93 : decode cX1_totalOf 93 = .ok (.istore 7, 2) := by decide +kernel
theorem dX1_totalOf_95 : decode cX1_totalOf 95 = .ok (.iinc 8 2, 3) := by decide +kernel
theorem dX1_totalOf_98 : decode cX1_totalOf 98 = .ok (.iinc 9 1, 3) := by decide +kernel
theorem dX1_totalOf_101 : decode cX1_totalOf 101 = .ok (.goto (-87), 3) := by decide +kernel
theorem dX1_totalOf_104 : decode cX1_totalOf 104 = .ok (.iload 6, 2) := by decide +kernel
theorem dX1_totalOf_106 : decode cX1_totalOf 106 = .ok (.i2l, 1) := by decide +kernel
theorem dX1_totalOf_107 : decode cX1_totalOf 107 = .ok (.lreturn, 1) := by decide +kernel
noncomputable def fX1_totalOf_86 (k14 : (Nat → Int32) → Int32 → Int32 → Int32 → Int32 → Int32 → Int32 → Int32 → Int32 → Option (Int64)) (t_cells : Nat → Int32) (v2 : Int32) (v3 : Int32) (v4 : Int32) (v5 : Int32) (v7 : Int32) (v8 : Int32) (v9 : Int32) (z0 : Int32) (z1 : Int32) : Option (Int64) := k14 t_cells v2 v3 v4 v5 (z0 + z1) (iushr v7 4) (v8 + 2) (v9 + 1)
noncomputable def fX1_totalOf_49 (k14 : (Nat → Int32) → Int32 → Int32 → Int32 → Int32 → Int32 → Int32 → Int32 → Int32 → Option (Int64)) (t_cells : Nat → Int32) (v2 : Int32) (v3 : Int32) (v4 : Int32) (v5 : Int32) (v6 : Int32) (v7 : Int32) (v8 : Int32) (v9 : Int32) (z0 : Int32) : Option (Int64) := (if v4 = 2 then fX1_totalOf_86 k14 t_cells v2 v3 v4 v5 v7 v8 v9 v6 ((fX3_thickOf v8) * z0) else (if v4 = 1 then fX1_totalOf_86 k14 t_cells v2 v3 v4 v5 v7 v8 v9 v6 (v8 * z0) else fX1_totalOf_86 k14 t_cells v2 v3 v4 v5 v7 v8 v9 v6 z0))
noncomputable def fX1_totalOf_14  : Nat → (Nat → Int32) → Int32 → Int32 → Int32 → Int32 → Int32 → Int32 → Int32 → Int32 → Option (Int64)
  | 0, _, _, _, _, _, _, _, _, _ => none
  | n + 1, t_cells, v2, v3, v4, v5, v6, v7, v8, v9 => (if v2 ≤ v9 then some v6.toInt64 else (if ((v3 >>> (v9 &&& 31)) &&& 1) = 0 then chk 144 (((v7 &&& 15) * 9) + v5) (fX1_totalOf_49 (fX1_totalOf_14 n) t_cells v2 v3 v4 v5 v6 v7 v8 v9 (t_cells (((v7 &&& 15) * 9) + v5).toNatClampNeg)) else fX1_totalOf_49 (fX1_totalOf_14 n) t_cells v2 v3 v4 v5 v6 v7 v8 v9 0))
theorem fX1_totalOf_14_z  (t_cells : Nat → Int32) (v2 : Int32) (v3 : Int32) (v4 : Int32) (v5 : Int32) (v6 : Int32) (v7 : Int32) (v8 : Int32) (v9 : Int32) : fX1_totalOf_14  0 t_cells v2 v3 v4 v5 v6 v7 v8 v9 = none := rfl
theorem fX1_totalOf_14_s  (n : Nat) (t_cells : Nat → Int32) (v2 : Int32) (v3 : Int32) (v4 : Int32) (v5 : Int32) (v6 : Int32) (v7 : Int32) (v8 : Int32) (v9 : Int32) : fX1_totalOf_14  (n + 1) t_cells v2 v3 v4 v5 v6 v7 v8 v9 = (if v2 ≤ v9 then some v6.toInt64 else (if ((v3 >>> (v9 &&& 31)) &&& 1) = 0 then chk 144 (((v7 &&& 15) * 9) + v5) (fX1_totalOf_49 (fX1_totalOf_14 n) t_cells v2 v3 v4 v5 v6 v7 v8 v9 (t_cells (((v7 &&& 15) * 9) + v5).toNatClampNeg)) else fX1_totalOf_49 (fX1_totalOf_14 n) t_cells v2 v3 v4 v5 v6 v7 v8 v9 0)) := rfl
noncomputable def fX1_totalOf  (t_cells : Nat → Int32) (v1 : Int32) (v2 : Int32) (v3 : Int32) (v4 : Int32) (v5 : Int32) : Option (Int64) := fX1_totalOf_14 FU t_cells v2 v3 v4 v5 0 v1 (1 - v2) 0
set_option maxHeartbeats 4000000 in
set_option maxRecDepth 100000 in
theorem ctX1_totalOf (l : Launch) (g : GT) (a_t : Nat → Nat) (t_told : Int32) (t_lines : Int32) (t_kinds : Int32) (t_acts : Int32) (t_cells : Nat → Int32) (v1 : Int32) (v2 : Int32) (v3 : Int32) (v4 : Int32) (v5 : Int32) (o : Int64) (h : fX1_totalOf t_cells v1 v2 v3 v4 v5 = some o) : Met l yX1_totalOf (Cond.code yX1_totalOf cX1_totalOf 11 (some .long) :: Tw) ⟨1, 0, 0, 20⟩ (va_Pc [.ref ((a_t 0)), .int v1, .int v2, .int v3, .int v4, .int v5] (roB g [((a_t 0), .inr (1, [.ref (a_t 1), .ref (a_t 2), .ref (a_t 3), .ref (a_t 4), .ref (a_t 5), .int t_told, .int t_lines, .int t_kinds, .int t_acts])), ((a_t 2), .inl (g.2.2.1 0, 144, .inl t_cells))])) (vp_Sl (fun x => x = o)) 0 0 (fun _ => False) := by
  refine ro_metl (by decide) (Nat.le_of_ble_eq_true rfl) (lv0 := [(0, .ref ((a_t 0))), (1, .int v1), (2, .int v2), (3, .int v3), (4, .int v4), (5, .int v5)]) rfl ?_
  intro p e s m args below meth c ls Q cx hret hG hP hl
  have hx := cx.1
  have hb := cx.2.1
  have hG0 := hG
  have w86 : ∀ (k14 : (Nat → Int32) → Int32 → Int32 → Int32 → Int32 → Int32 → Int32 → Int32 → Int32 → Option (Int64)) (hk14 : ∀ (v2 : Int32) (v3 : Int32) (v4 : Int32) (v5 : Int32) (v6 : Int32) (v7 : Int32) (v8 : Int32) (v9 : Int32) (ls : Array Slot), lv_has ls 11 [(0, .ref ((a_t 0))), (2, .int v2), (3, .int v3), (4, .int v4), (5, .int v5), (6, .int v6), (7, .int v7), (8, .int v8), (9, .int v9)] → k14 t_cells v2 v3 v4 v5 v6 v7 v8 v9 = some o → W p l e ⟨1, 0, 0, 20⟩ s m args below meth c s.heap [] 0 0 Q (F0 m 14 ls [])) (v2 : Int32) (v3 : Int32) (v4 : Int32) (v5 : Int32) (v7 : Int32) (v8 : Int32) (v9 : Int32) (z0 : Int32) (z1 : Int32) (ls : Array Slot), lv_has ls 11 [(0, .ref ((a_t 0))), (2, .int v2), (3, .int v3), (4, .int v4), (5, .int v5), (7, .int v7), (8, .int v8), (9, .int v9)] → fX1_totalOf_86 k14 t_cells v2 v3 v4 v5 v7 v8 v9 z0 z1 = some o → W p l e ⟨1, 0, 0, 20⟩ s m args below meth c s.heap [] 0 0 Q (F0 m 86 ls [.int z1, .int z0]) := by
    intro k14 hk14 v2 v3 v4 v5 v7 v8 v9 z0 z1 ls hl h
    unfold fX1_totalOf_86 at h
    refine lv_iadd hx hb dX1_totalOf_86 ?_
    refine lv_istore (lv' := [(6, .int (z0 + z1)), (0, .ref ((a_t 0))), (2, .int v2), (3, .int v3), (4, .int v4), (5, .int v5), (7, .int v7), (8, .int v8), (9, .int v9)]) hx hb dX1_totalOf_87 hl (by decide) rfl (fun ls hl => ?_)
    refine lv_iload hx hb dX1_totalOf_89 (lv_at hl 6 rfl) ?_
    refine lv_iconst (v := 4) hx hb dX1_totalOf_91 (by decide) ?_
    refine lv_iushr (v := iushr v7 4) hx hb dX1_totalOf_92 rfl ?_
    refine lv_istore (lv' := [(7, .int (iushr v7 4)), (6, .int (z0 + z1)), (0, .ref ((a_t 0))), (2, .int v2), (3, .int v3), (4, .int v4), (5, .int v5), (8, .int v8), (9, .int v9)]) hx hb dX1_totalOf_93 hl (by decide) rfl (fun ls hl => ?_)
    refine lv_iinc (v := v8 + 2) (lv' := [(8, .int (v8 + 2)), (7, .int (iushr v7 4)), (6, .int (z0 + z1)), (0, .ref ((a_t 0))), (2, .int v2), (3, .int v3), (4, .int v4), (5, .int v5), (9, .int v9)]) hx hb dX1_totalOf_95 hl (k := 7) rfl rfl (by decide) rfl (fun ls hl => ?_)
    refine lv_iinc (v := v9 + 1) (lv' := [(9, .int (v9 + 1)), (8, .int (v8 + 2)), (7, .int (iushr v7 4)), (6, .int (z0 + z1)), (0, .ref ((a_t 0))), (2, .int v2), (3, .int v3), (4, .int v4), (5, .int v5)]) hx hb dX1_totalOf_98 hl (k := 8) rfl rfl (by decide) rfl (fun ls hl => ?_)
    refine lv_goto (tgt := 14) hx hb dX1_totalOf_101 (by decide) ?_
    exact hk14 v2 v3 v4 v5 (z0 + z1) (iushr v7 4) (v8 + 2) (v9 + 1) _ (lv_sub hl [4, 5, 6, 7, 8, 3, 2, 1, 0] rfl) h
  have w49 : ∀ (k14 : (Nat → Int32) → Int32 → Int32 → Int32 → Int32 → Int32 → Int32 → Int32 → Int32 → Option (Int64)) (hk14 : ∀ (v2 : Int32) (v3 : Int32) (v4 : Int32) (v5 : Int32) (v6 : Int32) (v7 : Int32) (v8 : Int32) (v9 : Int32) (ls : Array Slot), lv_has ls 11 [(0, .ref ((a_t 0))), (2, .int v2), (3, .int v3), (4, .int v4), (5, .int v5), (6, .int v6), (7, .int v7), (8, .int v8), (9, .int v9)] → k14 t_cells v2 v3 v4 v5 v6 v7 v8 v9 = some o → W p l e ⟨1, 0, 0, 20⟩ s m args below meth c s.heap [] 0 0 Q (F0 m 14 ls [])) (v2 : Int32) (v3 : Int32) (v4 : Int32) (v5 : Int32) (v6 : Int32) (v7 : Int32) (v8 : Int32) (v9 : Int32) (z0 : Int32) (ls : Array Slot), lv_has ls 11 [(0, .ref ((a_t 0))), (2, .int v2), (3, .int v3), (4, .int v4), (5, .int v5), (6, .int v6), (7, .int v7), (8, .int v8), (9, .int v9)] → fX1_totalOf_49 k14 t_cells v2 v3 v4 v5 v6 v7 v8 v9 z0 = some o → W p l e ⟨1, 0, 0, 20⟩ s m args below meth c s.heap [] 0 0 Q (F0 m 49 ls [.int z0]) := by
    intro k14 hk14 v2 v3 v4 v5 v6 v7 v8 v9 z0 ls hl h
    unfold fX1_totalOf_49 at h
    refine lv_istore (lv' := [(10, .int z0), (0, .ref ((a_t 0))), (2, .int v2), (3, .int v3), (4, .int v4), (5, .int v5), (6, .int v6), (7, .int v7), (8, .int v8), (9, .int v9)]) hx hb dX1_totalOf_49 hl (by decide) rfl (fun ls hl => ?_)
    refine lv_iload hx hb dX1_totalOf_51 (lv_at hl 6 rfl) ?_
    refine lv_iload hx hb dX1_totalOf_53 (lv_at hl 4 rfl) ?_
    refine lv_iconst (v := 2) hx hb dX1_totalOf_55 (by decide) ?_
    refine lv_icmp_ne (tgt := 70) hx hb dX1_totalOf_56 (by decide) (fun c4 => ?_) (fun c4 => ?_)
    · have h := itn c4 h
      refine lv_iload hx hb dX1_totalOf_70 (lv_at hl 4 rfl) ?_
      refine lv_iconst (v := 1) hx hb dX1_totalOf_72 (by decide) ?_
      refine lv_icmp_ne (tgt := 84) hx hb dX1_totalOf_73 (by decide) (fun c5 => ?_) (fun c5 => ?_)
      · have h := itn c5 h
        refine lv_iload hx hb dX1_totalOf_84 (lv_at hl 0 rfl) ?_
        exact w86 _ hk14 v2 v3 v4 v5 v7 v8 v9 v6 z0 _ (lv_sub hl [1, 2, 3, 4, 5, 7, 8, 9] rfl) h
      · have h := itp c5 h
        refine lv_iload hx hb dX1_totalOf_76 (lv_at hl 8 rfl) ?_
        refine lv_iload hx hb dX1_totalOf_78 (lv_at hl 0 rfl) ?_
        refine lv_imul hx hb dX1_totalOf_80 ?_
        refine lv_goto (tgt := 86) hx hb dX1_totalOf_81 (by decide) ?_
        exact w86 _ hk14 v2 v3 v4 v5 v7 v8 v9 v6 (v8 * z0) _ (lv_sub hl [1, 2, 3, 4, 5, 7, 8, 9] rfl) h
    · have h := itp c4 h
      refine lv_iload hx hb dX1_totalOf_59 (lv_at hl 8 rfl) ?_
      refine ro_i (runSN (As := [.int v8]) (rest := [.int v6]) hG cx hl.1 (ctX3_thickOf l g v8 (fX3_thickOf v8) rfl) kmX3_thickOf ksX3_thickOf nm_28 ⟨rfl, rfl⟩ ⟨Nat.le_of_ble_eq_true rfl, Nat.le_of_ble_eq_true rfl⟩ (roS hG (hP.sub [] rfl)) rfl rfl (Nat.le_of_ble_eq_true rfl) dX1_totalOf_61 ⟨Nat.le_of_ble_eq_true rfl, Nat.le_of_ble_eq_true rfl⟩) ?_
      refine lv_iload hx hb dX1_totalOf_64 (lv_at hl 0 rfl) ?_
      refine lv_imul hx hb dX1_totalOf_66 ?_
      refine lv_goto (tgt := 86) hx hb dX1_totalOf_67 (by decide) ?_
      exact w86 _ hk14 v2 v3 v4 v5 v7 v8 v9 v6 ((fX3_thickOf v8) * z0) _ (lv_sub hl [1, 2, 3, 4, 5, 7, 8, 9] rfl) h
  have w14 : ∀ (n : Nat) (v2 : Int32) (v3 : Int32) (v4 : Int32) (v5 : Int32) (v6 : Int32) (v7 : Int32) (v8 : Int32) (v9 : Int32) (ls : Array Slot), lv_has ls 11 [(0, .ref ((a_t 0))), (2, .int v2), (3, .int v3), (4, .int v4), (5, .int v5), (6, .int v6), (7, .int v7), (8, .int v8), (9, .int v9)] → fX1_totalOf_14  n t_cells v2 v3 v4 v5 v6 v7 v8 v9 = some o → W p l e ⟨1, 0, 0, 20⟩ s m args below meth c s.heap [] 0 0 Q (F0 m 14 ls []) := by
    intro n
    induction n with
    | zero => intro v2 v3 v4 v5 v6 v7 v8 v9 ls hl h; cases (fX1_totalOf_14_z  t_cells v2 v3 v4 v5 v6 v7 v8 v9).symm.trans h
    | succ n ih =>
    intro v2 v3 v4 v5 v6 v7 v8 v9 ls hl h
    have h := (fX1_totalOf_14_s  n t_cells v2 v3 v4 v5 v6 v7 v8 v9).symm.trans h
    refine lv_iload hx hb dX1_totalOf_14 (lv_at hl 8 rfl) ?_
    refine lv_iload_n hx hb dX1_totalOf_16 rfl (lv_at hl 1 rfl) ?_
    refine lv_icmp_ge (tgt := 104) hx hb dX1_totalOf_17 (by decide) (fun c1 => ?_) (fun c1 => ?_)
    · have h := itp c1 h
      refine lv_iload hx hb dX1_totalOf_104 (lv_at hl 5 rfl) ?_
      refine lv_i2l (v := v6.toInt64) hx hb dX1_totalOf_106 rfl ?_
      exact hret _ _ _ dX1_totalOf_107 (Option.some.inj h)
    · have h := itn c1 h
      refine lv_iload_n hx hb dX1_totalOf_20 rfl (lv_at hl 2 rfl) ?_
      refine lv_iload hx hb dX1_totalOf_21 (lv_at hl 8 rfl) ?_
      refine lv_ishr hx hb dX1_totalOf_23 ?_
      refine lv_iconst (v := 1) hx hb dX1_totalOf_24 (by decide) ?_
      refine lv_iand hx hb dX1_totalOf_25 ?_
      refine lv_if_ne (tgt := 48) hx hb dX1_totalOf_26 (by decide) (fun c2 => ?_) (fun c2 => ?_)
      · have h := itn c2 h
        refine lv_iconst (v := 0) hx hb dX1_totalOf_48 (by decide) ?_
        exact w49 _ ih v2 v3 v4 v5 v6 v7 v8 v9 0 _ (lv_sub hl [0, 1, 2, 3, 4, 5, 6, 7, 8] rfl) h
      · have h := itp c2 h
        refine lv_aload_n hx hb dX1_totalOf_29 rfl (lv_at hl 0 rfl) ?_
        refine xa_get (C := RX1) (T := TX1) (N := 9) cx hG hP 0 rfl rfl uX1 1 (by decide) lf_X1_15 rfl dX1_totalOf_30 ?_
        refine lv_iload hx hb dX1_totalOf_33 (lv_at hl 6 rfl) ?_
        refine lv_bipush (v := 15) hx hb dX1_totalOf_35 (by decide) ?_
        refine lv_iand hx hb dX1_totalOf_37 ?_
        refine lv_bipush (v := 9) hx hb dX1_totalOf_38 (by decide) ?_
        refine lv_imul hx hb dX1_totalOf_40 ?_
        refine lv_iload hx hb dX1_totalOf_41 (lv_at hl 4 rfl) ?_
        refine lv_iadd hx hb dX1_totalOf_43 ?_
        obtain ⟨hi3, h⟩ := chk_out h
        refine xa_iald cx hG hP 1 rfl hi3 rfl dX1_totalOf_44 ?_
        refine lv_goto (tgt := 49) hx hb dX1_totalOf_45 (by decide) ?_
        exact w49 _ ih v2 v3 v4 v5 v6 v7 v8 v9 (t_cells (((v7 &&& 15) * 9) + v5).toNatClampNeg) _ (lv_sub hl [0, 1, 2, 3, 4, 5, 6, 7, 8] rfl) h
  unfold fX1_totalOf at h
  refine lv_iconst (v := 0) hx hb dX1_totalOf_0 (by decide) ?_
  refine lv_istore (lv' := [(6, .int (0)), (0, .ref ((a_t 0))), (1, .int v1), (2, .int v2), (3, .int v3), (4, .int v4), (5, .int v5)]) hx hb dX1_totalOf_1 hl (by decide) rfl (fun ls hl => ?_)
  refine lv_iload_n hx hb dX1_totalOf_3 rfl (lv_at hl 2 rfl) ?_
  refine lv_istore (lv' := [(7, .int v1), (6, .int (0)), (0, .ref ((a_t 0))), (1, .int v1), (2, .int v2), (3, .int v3), (4, .int v4), (5, .int v5)]) hx hb dX1_totalOf_4 hl (by decide) rfl (fun ls hl => ?_)
  refine lv_iconst (v := 1) hx hb dX1_totalOf_6 (by decide) ?_
  refine lv_iload_n hx hb dX1_totalOf_7 rfl (lv_at hl 4 rfl) ?_
  refine lv_isub hx hb dX1_totalOf_8 ?_
  refine lv_istore (lv' := [(8, .int (1 - v2)), (7, .int v1), (6, .int (0)), (0, .ref ((a_t 0))), (1, .int v1), (2, .int v2), (3, .int v3), (4, .int v4), (5, .int v5)]) hx hb dX1_totalOf_9 hl (by decide) rfl (fun ls hl => ?_)
  refine lv_iconst (v := 0) hx hb dX1_totalOf_11 (by decide) ?_
  refine lv_istore (lv' := [(9, .int (0)), (8, .int (1 - v2)), (7, .int v1), (6, .int (0)), (0, .ref ((a_t 0))), (1, .int v1), (2, .int v2), (3, .int v3), (4, .int v4), (5, .int v5)]) hx hb dX1_totalOf_12 hl (by decide) rfl (fun ls hl => ?_)
  exact w14 FU v2 v3 v4 v5 0 v1 (1 - v2) 0 _ (lv_sub hl [4, 6, 7, 8, 9, 3, 2, 1, 0] rfl) h
-- X1_isRowStraight
theorem dX1_isRowStraight_0 : decode cX1_isRowStraight 0 = .ok (.aload_n 0, 1) := by decide +kernel
theorem dX1_isRowStraight_1 : decode cX1_isRowStraight 1 = .ok (.iload_n 1, 1) := by decide +kernel
theorem dX1_isRowStraight_2 : decode cX1_isRowStraight 2 = .ok (.iload_n 2, 1) := by decide +kernel
theorem dX1_isRowStraight_3 : decode cX1_isRowStraight 3 = .ok (.iconst 0, 1) := by decide +kernel
theorem dX1_isRowStraight_4 : decode cX1_isRowStraight 4 = .ok (.iconst 0, 1) := by decide +kernel
theorem dX1_isRowStraight_5 : decode cX1_isRowStraight 5 = .ok (.iconst 2, 1) := by decide +kernel
theorem dX1_isRowStraight_6 : decode cX1_isRowStraight 6 = .ok (.invokevirtual 80, 3) := by decide +kernel
theorem dX1_isRowStraight_9 : decode cX1_isRowStraight 9 = .ok (.lconst 0, 1) := by decide +kernel
theorem dX1_isRowStraight_10 : decode cX1_isRowStraight 10 = .ok (.lcmp, 1) := by decide +kernel
theorem dX1_isRowStraight_11 : decode cX1_isRowStraight 11 = .ok (.ifCond .ne 21, 3) := by decide +kernel
theorem dX1_isRowStraight_14 : decode cX1_isRowStraight 14 = .ok (.aload_n 0, 1) := by decide +kernel
theorem dX1_isRowStraight_15 : decode cX1_isRowStraight 15 = .ok (.iload_n 1, 1) := by decide +kernel
theorem dX1_isRowStraight_16 : decode cX1_isRowStraight 16 = .ok (.iload_n 2, 1) := by decide +kernel
theorem dX1_isRowStraight_17 : decode cX1_isRowStraight 17 = .ok (.iconst 0, 1) := by decide +kernel
theorem dX1_isRowStraight_18 : decode cX1_isRowStraight 18 = .ok (.iconst 2, 1) := by decide +kernel
theorem dX1_isRowStraight_19 : decode cX1_isRowStraight 19 = .ok (.iconst 2, 1) := by decide +kernel
theorem dX1_isRowStraight_20 : decode cX1_isRowStraight 20 = .ok (.invokevirtual 80, 3) := by decide +kernel
theorem dX1_isRowStraight_23 : decode cX1_isRowStraight 23 = .ok (.lconst 0, 1) := by decide +kernel
theorem dX1_isRowStraight_24 : decode cX1_isRowStraight 24 = .ok (.lcmp, 1) := by decide +kernel
theorem dX1_isRowStraight_25 : decode cX1_isRowStraight 25 = .ok (.ifCond .ne 7, 3) := by decide +kernel
theorem dX1_isRowStraight_28 : decode cX1_isRowStraight 28 = .ok (.iconst 1, 1) := by decide +kernel
theorem dX1_isRowStraight_29 : decode cX1_isRowStraight 29 = .ok (.goto 4, 3) := by decide +kernel
theorem dX1_isRowStraight_32 : decode cX1_isRowStraight 32 = .ok (.iconst 0, 1) := by decide +kernel
theorem dX1_isRowStraight_33 : decode cX1_isRowStraight 33 = .ok (.ireturn, 1) := by decide +kernel
noncomputable def fX1_isRowStraight  (t_cells : Nat → Int32) (v1 : Int32) (v2 : Int32) : Option (Int32) := (fX1_totalOf t_cells v1 v2 0 0 2).bind fun r1 => (if (lg_cmp r1 0) = 0 then (fX1_totalOf t_cells v1 v2 0 2 2).bind fun r4 => (if (lg_cmp r4 0) = 0 then some (1) else some (0)) else some (0))
set_option maxHeartbeats 4000000 in
set_option maxRecDepth 100000 in
theorem ctX1_isRowStraight (l : Launch) (g : GT) (a_t : Nat → Nat) (t_told : Int32) (t_lines : Int32) (t_kinds : Int32) (t_acts : Int32) (t_cells : Nat → Int32) (v1 : Int32) (v2 : Int32) (o : Int32) (h : fX1_isRowStraight t_cells v1 v2 = some o) : Met l yX1_isRowStraight (Cond.code yX1_isRowStraight cX1_isRowStraight 3 (some .boolean) :: Tw) ⟨2, 0, 0, 50⟩ (va_Pc [.ref ((a_t 0)), .int v1, .int v2] (roB g [((a_t 0), .inr (1, [.ref (a_t 1), .ref (a_t 2), .ref (a_t 3), .ref (a_t 4), .ref (a_t 5), .int t_told, .int t_lines, .int t_kinds, .int t_acts])), ((a_t 2), .inl (g.2.2.1 0, 144, .inl t_cells))])) (vp_Si (fun x => x = o ∧ (x = 0 ∨ x = 1))) 0 0 (fun _ => False) := by
  refine ro_metz (by decide) (Nat.le_of_ble_eq_true rfl) (lv0 := [(0, .ref ((a_t 0))), (1, .int v1), (2, .int v2)]) rfl ?_
  intro p e s m args below meth c ls Q cx hret hG hP hl
  have hx := cx.1
  have hb := cx.2.1
  have hG0 := hG
  unfold fX1_isRowStraight at h
  refine lv_aload_n hx hb dX1_isRowStraight_0 rfl (lv_at hl 0 rfl) ?_
  refine lv_iload_n hx hb dX1_isRowStraight_1 rfl (lv_at hl 1 rfl) ?_
  refine lv_iload_n hx hb dX1_isRowStraight_2 rfl (lv_at hl 2 rfl) ?_
  refine lv_iconst (v := 0) hx hb dX1_isRowStraight_3 (by decide) ?_
  refine lv_iconst (v := 0) hx hb dX1_isRowStraight_4 (by decide) ?_
  refine lv_iconst (v := 2) hx hb dX1_isRowStraight_5 (by decide) ?_
  obtain ⟨r1, hr2, h⟩ := bnd h
  refine ro_l (runV (As := [.int v1, .int v2, .int (0), .int (0), .int (2)]) (rest := []) cx hl.1 (ctX1_totalOf l g a_t t_told t_lines t_kinds t_acts t_cells v1 v2 (0) (0) (2) r1 hr2) kmX1_totalOf kvX1_totalOf lm_X1_80 ⟨rfl, rfl⟩ ⟨Nat.le_of_ble_eq_true rfl, Nat.le_of_ble_eq_true rfl⟩ (roV (q0 := 0) (ci := 1) hG (hP.sub [0, 1] rfl) hP rfl rfl) rfl rfl (Nat.le_of_ble_eq_true rfl) dX1_isRowStraight_6 ⟨Nat.le_of_ble_eq_true rfl, Nat.le_of_ble_eq_true rfl⟩) ?_
  refine lv_lconst (v := 0) hx hb dX1_isRowStraight_9 (by decide) ?_
  refine W.lcmp hx hb dX1_isRowStraight_10 ?_
  refine lv_if_ne (tgt := 32) hx hb dX1_isRowStraight_11 (by decide) (fun c3 => ?_) (fun c3 => ?_)
  · have h := itn c3 h
    refine lv_iconst (v := 0) hx hb dX1_isRowStraight_32 (by decide) ?_
    exact hret _ _ _ dX1_isRowStraight_33 (by decide) (Option.some.inj h)
  · have h := itp c3 h
    refine lv_aload_n hx hb dX1_isRowStraight_14 rfl (lv_at hl 0 rfl) ?_
    refine lv_iload_n hx hb dX1_isRowStraight_15 rfl (lv_at hl 1 rfl) ?_
    refine lv_iload_n hx hb dX1_isRowStraight_16 rfl (lv_at hl 2 rfl) ?_
    refine lv_iconst (v := 0) hx hb dX1_isRowStraight_17 (by decide) ?_
    refine lv_iconst (v := 2) hx hb dX1_isRowStraight_18 (by decide) ?_
    refine lv_iconst (v := 2) hx hb dX1_isRowStraight_19 (by decide) ?_
    obtain ⟨r4, hr5, h⟩ := bnd h
    refine ro_l (runV (As := [.int v1, .int v2, .int (0), .int (2), .int (2)]) (rest := []) cx hl.1 (ctX1_totalOf l g a_t t_told t_lines t_kinds t_acts t_cells v1 v2 (0) (2) (2) r4 hr5) kmX1_totalOf kvX1_totalOf lm_X1_80 ⟨rfl, rfl⟩ ⟨Nat.le_of_ble_eq_true rfl, Nat.le_of_ble_eq_true rfl⟩ (roV (q0 := 0) (ci := 1) hG (hP.sub [0, 1] rfl) hP rfl rfl) rfl rfl (Nat.le_of_ble_eq_true rfl) dX1_isRowStraight_20 ⟨Nat.le_of_ble_eq_true rfl, Nat.le_of_ble_eq_true rfl⟩) ?_
    refine lv_lconst (v := 0) hx hb dX1_isRowStraight_23 (by decide) ?_
    refine W.lcmp hx hb dX1_isRowStraight_24 ?_
    refine lv_if_ne (tgt := 32) hx hb dX1_isRowStraight_25 (by decide) (fun c6 => ?_) (fun c6 => ?_)
    · have h := itn c6 h
      refine lv_iconst (v := 0) hx hb dX1_isRowStraight_32 (by decide) ?_
      exact hret _ _ _ dX1_isRowStraight_33 (by decide) (Option.some.inj h)
    · have h := itp c6 h
      refine lv_iconst (v := 1) hx hb dX1_isRowStraight_28 (by decide) ?_
      refine lv_goto (tgt := 33) hx hb dX1_isRowStraight_29 (by decide) ?_
      exact hret _ _ _ dX1_isRowStraight_33 (by decide) (Option.some.inj h)
-- X1_isRowFlat
theorem dX1_isRowFlat_0 : decode cX1_isRowFlat 0 = .ok (.getstatic 108, 3) := by decide +kernel
theorem dX1_isRowFlat_3 : decode cX1_isRowFlat 3 = .ok (.astore_n 3, 1) := by decide +kernel
theorem dX1_isRowFlat_4 : decode cX1_isRowFlat 4 = .ok (.aload_n 3, 1) := by decide +kernel
theorem dX1_isRowFlat_5 : decode cX1_isRowFlat 5 = .ok (.arraylength, 1) := by decide +kernel
theorem dX1_isRowFlat_6 : decode cX1_isRowFlat 6 = .ok (.istore 4, 2) := by decide +kernel
theorem dX1_isRowFlat_8 : decode cX1_isRowFlat 8 = .ok (.iconst 0, 1) := by decide +kernel
theorem dX1_isRowFlat_9 : decode cX1_isRowFlat 9 = .ok (.istore 5, 2) := by decide +kernel
theorem dX1_isRowFlat_11 : decode cX1_isRowFlat 11 = .ok (.iload 5, 2) := by decide +kernel
theorem dX1_isRowFlat_13 : decode cX1_isRowFlat 13 = .ok (.iload 4, 2) := by decide +kernel
theorem dX1_isRowFlat_15 : decode cX1_isRowFlat 15 = .ok (.if_icmp .ge 32, 3) := by decide +kernel
theorem dX1_isRowFlat_18 : decode cX1_isRowFlat 18 = .ok (.aload_n 3, 1) := by decide +kernel
theorem dX1_isRowFlat_19 : decode cX1_isRowFlat 19 = .ok (.iload 5, 2) := by decide +kernel
theorem dX1_isRowFlat_21 : decode cX1_isRowFlat 21 = .ok (.iaload, 1) := by decide +kernel
theorem dX1_isRowFlat_22 : decode cX1_isRowFlat 22 = .ok (.istore 6, 2) := by decide +kernel
theorem dX1_isRowFlat_24 : decode cX1_isRowFlat 24 = .ok (.aload_n 0, 1) := by decide +kernel
theorem dX1_isRowFlat_25 : decode cX1_isRowFlat 25 = .ok (.iload_n 1, 1) := by decide +kernel
theorem dX1_isRowFlat_26 : decode cX1_isRowFlat 26 = .ok (.iload_n 2, 1) := by decide +kernel
theorem dX1_isRowFlat_27 : decode cX1_isRowFlat 27 = .ok (.iconst 0, 1) := by decide +kernel
theorem dX1_isRowFlat_28 : decode cX1_isRowFlat 28 = .ok (.iconst 1, 1) := by decide +kernel
theorem dX1_isRowFlat_29 : decode cX1_isRowFlat 29 = .ok (.iload 6, 2) := by decide +kernel
theorem dX1_isRowFlat_31 : decode cX1_isRowFlat 31 = .ok (.invokevirtual 80, 3) := by decide +kernel
theorem dX1_isRowFlat_34 : decode cX1_isRowFlat 34 = .ok (.lconst 0, 1) := by decide +kernel
theorem dX1_isRowFlat_35 : decode cX1_isRowFlat 35 = .ok (.lcmp, 1) := by decide +kernel
theorem dX1_isRowFlat_36 : decode cX1_isRowFlat 36 = .ok (.ifCond .eq 5, 3) := by decide +kernel
theorem dX1_isRowFlat_39 : decode cX1_isRowFlat 39 = .ok (.iconst 0, 1) := by decide +kernel
theorem dX1_isRowFlat_40 : decode cX1_isRowFlat 40 = .ok (.ireturn, 1) := by decide +kernel
theorem dX1_isRowFlat_41 : decode cX1_isRowFlat 41 = .ok (.iinc 5 1, 3) := by decide +kernel
theorem dX1_isRowFlat_44 : decode cX1_isRowFlat 44 = .ok (.goto (-33), 3) := by decide +kernel
theorem dX1_isRowFlat_47 : decode cX1_isRowFlat 47 = .ok (.iconst 1, 1) := by decide +kernel
theorem dX1_isRowFlat_48 : decode cX1_isRowFlat 48 = .ok (.ireturn, 1) := by decide +kernel
noncomputable def fX1_isRowFlat_11  : Nat → (Nat → Int32) → Int32 → Int32 → Int32 → Int32 → Option (Int32)
  | 0, _, _, _, _, _ => none
  | n + 1, t_cells, v1, v2, v4, v5 => (if v4 ≤ v5 then some (1) else chk 5 v5 ((fX1_totalOf t_cells v1 v2 0 1 (stF 5 v5.toNatClampNeg)).bind fun r3 => (if (lg_cmp r3 0) = 0 then fX1_isRowFlat_11 n t_cells v1 v2 v4 (v5 + 1) else some (0))))
theorem fX1_isRowFlat_11_z  (t_cells : Nat → Int32) (v1 : Int32) (v2 : Int32) (v4 : Int32) (v5 : Int32) : fX1_isRowFlat_11  0 t_cells v1 v2 v4 v5 = none := rfl
theorem fX1_isRowFlat_11_s  (n : Nat) (t_cells : Nat → Int32) (v1 : Int32) (v2 : Int32) (v4 : Int32) (v5 : Int32) : fX1_isRowFlat_11  (n + 1) t_cells v1 v2 v4 v5 = (if v4 ≤ v5 then some (1) else chk 5 v5 ((fX1_totalOf t_cells v1 v2 0 1 (stF 5 v5.toNatClampNeg)).bind fun r3 => (if (lg_cmp r3 0) = 0 then fX1_isRowFlat_11 n t_cells v1 v2 v4 (v5 + 1) else some (0)))) := rfl
noncomputable def fX1_isRowFlat  (t_cells : Nat → Int32) (v1 : Int32) (v2 : Int32) : Option (Int32) := fX1_isRowFlat_11 FU t_cells v1 v2 5 0
set_option maxHeartbeats 4000000 in
set_option maxRecDepth 100000 in
theorem ctX1_isRowFlat (l : Launch) (g : GT) (a_t : Nat → Nat) (t_told : Int32) (t_lines : Int32) (t_kinds : Int32) (t_acts : Int32) (t_cells : Nat → Int32) (v1 : Int32) (v2 : Int32) (o : Int32) (h : fX1_isRowFlat t_cells v1 v2 = some o) : Met l yX1_isRowFlat (Cond.code yX1_isRowFlat cX1_isRowFlat 7 (some .boolean) :: Tw) ⟨2, 0, 0, 50⟩ (va_Pc [.ref ((a_t 0)), .int v1, .int v2] (roB g [((a_t 0), .inr (1, [.ref (a_t 1), .ref (a_t 2), .ref (a_t 3), .ref (a_t 4), .ref (a_t 5), .int t_told, .int t_lines, .int t_kinds, .int t_acts])), ((a_t 2), .inl (g.2.2.1 0, 144, .inl t_cells))])) (vp_Si (fun x => x = o ∧ (x = 0 ∨ x = 1))) 0 0 (fun _ => False) := by
  refine ro_metz (by decide) (Nat.le_of_ble_eq_true rfl) (lv0 := [(0, .ref ((a_t 0))), (1, .int v1), (2, .int v2)]) rfl ?_
  intro p e s m args below meth c ls Q cx hret hG hP hl
  have hx := cx.1
  have hb := cx.2.1
  have hG0 := hG
  have w11 : ∀ (n : Nat) (v1 : Int32) (v2 : Int32) (v4 : Int32) (v5 : Int32) (ls : Array Slot), lv_has ls 7 [(0, .ref ((a_t 0))), (1, .int v1), (2, .int v2), (3, .ref ((g.2.2.2.1 5))), (4, .int v4), (5, .int v5)] → fX1_isRowFlat_11  n t_cells v1 v2 v4 v5 = some o → W p l e ⟨2, 0, 0, 50⟩ s m args below meth c s.heap [] 0 0 Q (F0 m 11 ls []) := by
    intro n
    induction n with
    | zero => intro v1 v2 v4 v5 ls hl h; cases (fX1_isRowFlat_11_z  t_cells v1 v2 v4 v5).symm.trans h
    | succ n ih =>
    intro v1 v2 v4 v5 ls hl h
    have h := (fX1_isRowFlat_11_s  n t_cells v1 v2 v4 v5).symm.trans h
    refine lv_iload hx hb dX1_isRowFlat_11 (lv_at hl 5 rfl) ?_
    refine lv_iload hx hb dX1_isRowFlat_13 (lv_at hl 4 rfl) ?_
    refine lv_icmp_ge (tgt := 47) hx hb dX1_isRowFlat_15 (by decide) (fun c1 => ?_) (fun c1 => ?_)
    · have h := itp c1 h
      refine lv_iconst (v := 1) hx hb dX1_isRowFlat_47 (by decide) ?_
      exact hret _ _ _ dX1_isRowFlat_48 (by decide) (Option.some.inj h)
    · have h := itn c1 h
      refine lv_aload_n hx hb dX1_isRowFlat_18 rfl (lv_at hl 3 rfl) ?_
      refine lv_iload hx hb dX1_isRowFlat_19 (lv_at hl 5 rfl) ?_
      obtain ⟨hi2, h⟩ := chk_out h
      refine xs_ald (v := stF 5 v5.toNatClampNeg) cx hG0 va_S.rf 5 ⟨rfl, rfl⟩ hi2 rfl dX1_isRowFlat_21 ?_
      refine lv_istore (lv' := [(6, .int (stF 5 v5.toNatClampNeg)), (0, .ref ((a_t 0))), (1, .int v1), (2, .int v2), (3, .ref ((g.2.2.2.1 5))), (4, .int v4), (5, .int v5)]) hx hb dX1_isRowFlat_22 hl (by decide) rfl (fun ls hl => ?_)
      refine lv_aload_n hx hb dX1_isRowFlat_24 rfl (lv_at hl 1 rfl) ?_
      refine lv_iload_n hx hb dX1_isRowFlat_25 rfl (lv_at hl 2 rfl) ?_
      refine lv_iload_n hx hb dX1_isRowFlat_26 rfl (lv_at hl 3 rfl) ?_
      refine lv_iconst (v := 0) hx hb dX1_isRowFlat_27 (by decide) ?_
      refine lv_iconst (v := 1) hx hb dX1_isRowFlat_28 (by decide) ?_
      refine lv_iload hx hb dX1_isRowFlat_29 (lv_at hl 0 rfl) ?_
      obtain ⟨r3, hr4, h⟩ := bnd h
      refine ro_l (runV (As := [.int v1, .int v2, .int (0), .int (1), .int (stF 5 v5.toNatClampNeg)]) (rest := []) cx hl.1 (ctX1_totalOf l g a_t t_told t_lines t_kinds t_acts t_cells v1 v2 (0) (1) (stF 5 v5.toNatClampNeg) r3 hr4) kmX1_totalOf kvX1_totalOf lm_X1_80 ⟨rfl, rfl⟩ ⟨Nat.le_of_ble_eq_true rfl, Nat.le_of_ble_eq_true rfl⟩ (roV (q0 := 0) (ci := 1) hG (hP.sub [0, 1] rfl) hP rfl rfl) rfl rfl (Nat.le_of_ble_eq_true rfl) dX1_isRowFlat_31 ⟨Nat.le_of_ble_eq_true rfl, Nat.le_of_ble_eq_true rfl⟩) ?_
      refine lv_lconst (v := 0) hx hb dX1_isRowFlat_34 (by decide) ?_
      refine W.lcmp hx hb dX1_isRowFlat_35 ?_
      refine lv_if_eq (tgt := 41) hx hb dX1_isRowFlat_36 (by decide) (fun c5 => ?_) (fun c5 => ?_)
      · have h := itp c5 h
        refine lv_iinc (v := v5 + 1) (lv' := [(5, .int (v5 + 1)), (6, .int (stF 5 v5.toNatClampNeg)), (0, .ref ((a_t 0))), (1, .int v1), (2, .int v2), (3, .ref ((g.2.2.2.1 5))), (4, .int v4)]) hx hb dX1_isRowFlat_41 hl (k := 6) rfl rfl (by decide) rfl (fun ls hl => ?_)
        refine lv_goto (tgt := 11) hx hb dX1_isRowFlat_44 (by decide) ?_
        exact ih v1 v2 v4 (v5 + 1) _ (lv_sub hl [2, 3, 4, 5, 6, 0] rfl) h
      · have h := itn c5 h
        refine lv_iconst (v := 0) hx hb dX1_isRowFlat_39 (by decide) ?_
        exact hret _ _ _ dX1_isRowFlat_40 (by decide) (Option.some.inj h)
  unfold fX1_isRowFlat at h
  refine xs_get cx hG0 va_S.rf 5 rfl lf_X1_108 dX1_isRowFlat_0 ?_
  refine lv_astore_n (lv' := [(3, .ref ((g.2.2.2.1 5))), (0, .ref ((a_t 0))), (1, .int v1), (2, .int v2)]) hx hb dX1_isRowFlat_3 rfl hl (by decide) rfl (fun ls hl => ?_)
  refine lv_aload_n hx hb dX1_isRowFlat_4 rfl (lv_at hl 0 rfl) ?_
  refine xs_len cx hG0 va_S.rf 5 rfl (v := 5) rfl dX1_isRowFlat_5 ?_
  refine lv_istore (lv' := [(4, .int (5)), (3, .ref ((g.2.2.2.1 5))), (0, .ref ((a_t 0))), (1, .int v1), (2, .int v2)]) hx hb dX1_isRowFlat_6 hl (by decide) rfl (fun ls hl => ?_)
  refine lv_iconst (v := 0) hx hb dX1_isRowFlat_8 (by decide) ?_
  refine lv_istore (lv' := [(5, .int (0)), (4, .int (5)), (3, .ref ((g.2.2.2.1 5))), (0, .ref ((a_t 0))), (1, .int v1), (2, .int v2)]) hx hb dX1_isRowFlat_9 hl (by decide) rfl (fun ls hl => ?_)
  exact w11 FU v1 v2 5 0 _ (lv_sub hl [3, 4, 5, 2, 1, 0] rfl) h
-- X0_shapeOf
theorem dX0_shapeOf_0 : decode cX0_shapeOf 0 = .ok (.iload_n 2, 1) := by decide +kernel
theorem dX0_shapeOf_1 : decode cX0_shapeOf 1 = .ok (.aload_n 0, 1) := by decide +kernel
theorem dX0_shapeOf_2 : decode cX0_shapeOf 2 = .ok (.getfield 41, 3) := by decide +kernel
theorem dX0_shapeOf_5 : decode cX0_shapeOf 5 = .ok (.invokestatic 83, 3) := by decide +kernel
theorem dX0_shapeOf_8 : decode cX0_shapeOf 8 = .ok (.ifCond .eq 7, 3) := by decide +kernel
theorem dX0_shapeOf_11 : decode cX0_shapeOf 11 = .ok (.iconst 1, 1) := by decide +kernel
theorem dX0_shapeOf_12 : decode cX0_shapeOf 12 = .ok (.goto 4, 3) := by decide +kernel
theorem dX0_shapeOf_15 : decode cX0_shapeOf 15 = .ok (.iconst 0, 1) := by decide +kernel
theorem dX0_shapeOf_16 : decode cX0_shapeOf 16 = .ok (.istore 5, 2) := by decide +kernel
theorem dX0_shapeOf_18 : decode cX0_shapeOf 18 = .ok (.iload 5, 2) := by decide +kernel
theorem dX0_shapeOf_20 : decode cX0_shapeOf 20 = .ok (.ifCond .ne 19, 3) := by decide +kernel
theorem dX0_shapeOf_23 : decode cX0_shapeOf 23 = .ok (.iload_n 3, 1) := by decide +kernel
theorem dX0_shapeOf_24 : decode cX0_shapeOf 24 = .ok (.ifCond .ne 21, 3) := by decide +kernel
theorem dX0_shapeOf_27 : decode cX0_shapeOf 27 = .ok (.aload_n 1, 1) := by decide +kernel
theorem dX0_shapeOf_28 : decode cX0_shapeOf 28 = .ok (.iload_n 2, 1) := by decide +kernel
theorem dX0_shapeOf_29 : decode cX0_shapeOf 29 = .ok (.aload_n 0, 1) := by decide +kernel
theorem dX0_shapeOf_30 : decode cX0_shapeOf 30 = .ok (.getfield 41, 3) := by decide +kernel
theorem dX0_shapeOf_33 : decode cX0_shapeOf 33 = .ok (.invokevirtual 87, 3) := by decide +kernel
theorem dX0_shapeOf_36 : decode cX0_shapeOf 36 = .ok (.ifCond .eq 9, 3) := by decide +kernel
theorem dX0_shapeOf_39 : decode cX0_shapeOf 39 = .ok (.iload 5, 2) := by decide +kernel
theorem dX0_shapeOf_41 : decode cX0_shapeOf 41 = .ok (.iconst 2, 1) := by decide +kernel
theorem dX0_shapeOf_42 : decode cX0_shapeOf 42 = .ok (.ior, 1) := by decide +kernel
theorem dX0_shapeOf_43 : decode cX0_shapeOf 43 = .ok (.istore 5, 2) := by decide +kernel
theorem dX0_shapeOf_45 : decode cX0_shapeOf 45 = .ok (.iload 4, 2) := by decide +kernel
theorem dX0_shapeOf_47 : decode cX0_shapeOf 47 = .ok (.ifCond .ne 22, 3) := by decide +kernel
theorem dX0_shapeOf_50 : decode cX0_shapeOf 50 = .ok (.aload_n 1, 1) := by decide +kernel
theorem dX0_shapeOf_51 : decode cX0_shapeOf 51 = .ok (.iload_n 2, 1) := by decide +kernel
theorem dX0_shapeOf_52 : decode cX0_shapeOf 52 = .ok (.aload_n 0, 1) := by decide +kernel
theorem dX0_shapeOf_53 : decode cX0_shapeOf 53 = .ok (.getfield 41, 3) := by decide +kernel
theorem dX0_shapeOf_56 : decode cX0_shapeOf 56 = .ok (.invokevirtual 90, 3) := by decide +kernel
theorem dX0_shapeOf_59 : decode cX0_shapeOf 59 = .ok (.ifCond .eq 10, 3) := by decide +kernel
theorem dX0_shapeOf_62 : decode cX0_shapeOf 62 = .ok (.iload 5, 2) := by decide +kernel
theorem dX0_shapeOf_64 : decode cX0_shapeOf 64 = .ok (.iconst 4, 1) := by decide +kernel
theorem dX0_shapeOf_65 : decode cX0_shapeOf 65 = .ok (.ior, 1) := by decide +kernel
theorem dX0_shapeOf_66 : decode cX0_shapeOf 66 = .ok (.goto 5, 3) := by decide +kernel
theorem dX0_shapeOf_69 : decode cX0_shapeOf 69 = .ok (.iload 5, 2) := by decide +kernel
theorem dX0_shapeOf_71 : decode cX0_shapeOf 71 = .ok (.ireturn, 1) := by decide +kernel
noncomputable def fX0_shapeOf_45  (t_plies : Int32) (p1_cells : Nat → Int32) (v2 : Int32) (v4 : Int32) (v5 : Int32) : Option (Int32) := (if v4 = 0 then (fX1_isRowStraight p1_cells v2 t_plies).bind fun r12 => (if r12 = 0 then some v5 else some (v5 ||| 4)) else some v5)
noncomputable def fX0_shapeOf_39  (t_plies : Int32) (p1_cells : Nat → Int32) (v2 : Int32) (v4 : Int32) (v5 : Int32) : Option (Int32) := fX0_shapeOf_45 t_plies p1_cells v2 v4 (v5 ||| 2)
noncomputable def fX0_shapeOf_16  (t_plies : Int32) (p1_cells : Nat → Int32) (v2 : Int32) (v3 : Int32) (v4 : Int32) (z0 : Int32) : Option (Int32) := (if z0 = 0 then (if v3 = 0 then (fX1_isRowFlat p1_cells v2 t_plies).bind fun r7 => (if r7 = 0 then fX0_shapeOf_45 t_plies p1_cells v2 v4 z0 else fX0_shapeOf_39 t_plies p1_cells v2 v4 z0) else fX0_shapeOf_45 t_plies p1_cells v2 v4 z0) else fX0_shapeOf_39 t_plies p1_cells v2 v4 z0)
noncomputable def fX0_shapeOf  (t_plies : Int32) (p1_cells : Nat → Int32) (v2 : Int32) (v3 : Int32) (v4 : Int32) : Option (Int32) := (fX3_isMirrored v2 t_plies).bind fun r1 => (if r1 = 0 then fX0_shapeOf_16 t_plies p1_cells v2 v3 v4 0 else fX0_shapeOf_16 t_plies p1_cells v2 v3 v4 1)
set_option maxHeartbeats 4000000 in
set_option maxRecDepth 100000 in
theorem ctX0_shapeOf (l : Launch) (g : GT) (a_t : Nat → Nat) (b_t_rows : Nat) (b_t_seen : Nat) (a_p1 : Nat → Nat) (t_size : Int32) (t_ready : Int32) (t_pool : Int32) (t_plies : Int32) (t_room : Int32) (p1_told : Int32) (p1_lines : Int32) (p1_kinds : Int32) (p1_acts : Int32) (p1_cells : Nat → Int32) (v2 : Int32) (v3 : Int32) (v4 : Int32) (o : Int32) (h : fX0_shapeOf t_plies p1_cells v2 v3 v4 = some o) : Met l yX0_shapeOf (Cond.code yX0_shapeOf cX0_shapeOf 6 (some .int) :: Tw) ⟨3, 0, 0, 76⟩ (va_Pc [.ref ((a_t 0)), .ref ((a_p1 0)), .int v2, .int v3, .int v4] (roB g [((a_t 0), .inr (0, [.ref b_t_rows, .ref b_t_seen, .int t_size, .int t_ready, .int t_pool, .int t_plies, .int t_room])), ((a_p1 0), .inr (1, [.ref (a_p1 1), .ref (a_p1 2), .ref (a_p1 3), .ref (a_p1 4), .ref (a_p1 5), .int p1_told, .int p1_lines, .int p1_kinds, .int p1_acts])), ((a_p1 2), .inl (g.2.2.1 0, 144, .inl p1_cells))])) (vp_Si (fun x => x = o)) 0 0 (fun _ => False) := by
  refine ro_meti (by decide) (Nat.le_of_ble_eq_true rfl) (lv0 := [(0, .ref ((a_t 0))), (1, .ref ((a_p1 0))), (2, .int v2), (3, .int v3), (4, .int v4)]) rfl ?_
  intro p e s m args below meth c ls Q cx hret hG hP hl
  have hx := cx.1
  have hb := cx.2.1
  have hG0 := hG
  have w45 : ∀ (v2 : Int32) (v4 : Int32) (v5 : Int32) (ls : Array Slot), lv_has ls 6 [(0, .ref ((a_t 0))), (1, .ref ((a_p1 0))), (2, .int v2), (4, .int v4), (5, .int v5)] → fX0_shapeOf_45  t_plies p1_cells v2 v4 v5 = some o → W p l e ⟨3, 0, 0, 76⟩ s m args below meth c s.heap [] 0 0 Q (F0 m 45 ls []) := by
    intro v2 v4 v5 ls hl h
    unfold fX0_shapeOf_45 at h
    refine lv_iload hx hb dX0_shapeOf_45 (lv_at hl 3 rfl) ?_
    refine lv_if_ne (tgt := 69) hx hb dX0_shapeOf_47 (by decide) (fun c11 => ?_) (fun c11 => ?_)
    · have h := itn c11 h
      refine lv_iload hx hb dX0_shapeOf_69 (lv_at hl 4 rfl) ?_
      exact hret _ _ _ dX0_shapeOf_71 (Option.some.inj h)
    · have h := itp c11 h
      refine lv_aload_n hx hb dX0_shapeOf_50 rfl (lv_at hl 1 rfl) ?_
      refine lv_iload_n hx hb dX0_shapeOf_51 rfl (lv_at hl 2 rfl) ?_
      refine lv_aload_n hx hb dX0_shapeOf_52 rfl (lv_at hl 0 rfl) ?_
      refine xa_get (C := RX0) (T := TX0) (N := 7) cx hG hP 0 rfl rfl uX0 5 (by decide) lf_X0_41 rfl dX0_shapeOf_53 ?_
      obtain ⟨r12, hr13, h⟩ := bnd h
      refine ro_z (runVN (As := [.int v2, .int t_plies]) (rest := []) hG cx hl.1 (ctX1_isRowStraight l g a_p1 p1_told p1_lines p1_kinds p1_acts p1_cells v2 t_plies r12 hr13) kmX1_isRowStraight kvX1_isRowStraight nm_60 ⟨rfl, rfl⟩ ⟨Nat.le_of_ble_eq_true rfl, Nat.le_of_ble_eq_true rfl⟩ (roV (q0 := 1) (ci := 1) hG (hP.sub [1, 2] rfl) hP rfl rfl) rfl rfl (Nat.le_of_ble_eq_true rfl) dX0_shapeOf_56 ⟨Nat.le_of_ble_eq_true rfl, Nat.le_of_ble_eq_true rfl⟩) (fun hz14 => ?_)
      refine lv_if_eq (tgt := 69) hx hb dX0_shapeOf_59 (by decide) (fun c15 => ?_) (fun c15 => ?_)
      · have h := itp c15 h
        refine lv_iload hx hb dX0_shapeOf_69 (lv_at hl 4 rfl) ?_
        exact hret _ _ _ dX0_shapeOf_71 (Option.some.inj h)
      · have h := itn c15 h
        refine lv_iload hx hb dX0_shapeOf_62 (lv_at hl 4 rfl) ?_
        refine lv_iconst (v := 4) hx hb dX0_shapeOf_64 (by decide) ?_
        refine lv_ior hx hb dX0_shapeOf_65 ?_
        refine lv_goto (tgt := 71) hx hb dX0_shapeOf_66 (by decide) ?_
        exact hret _ _ _ dX0_shapeOf_71 (Option.some.inj h)
  have w39 : ∀ (v2 : Int32) (v4 : Int32) (v5 : Int32) (ls : Array Slot), lv_has ls 6 [(0, .ref ((a_t 0))), (1, .ref ((a_p1 0))), (2, .int v2), (4, .int v4), (5, .int v5)] → fX0_shapeOf_39  t_plies p1_cells v2 v4 v5 = some o → W p l e ⟨3, 0, 0, 76⟩ s m args below meth c s.heap [] 0 0 Q (F0 m 39 ls []) := by
    intro v2 v4 v5 ls hl h
    unfold fX0_shapeOf_39 at h
    refine lv_iload hx hb dX0_shapeOf_39 (lv_at hl 4 rfl) ?_
    refine lv_iconst (v := 2) hx hb dX0_shapeOf_41 (by decide) ?_
    refine lv_ior hx hb dX0_shapeOf_42 ?_
    refine lv_istore (lv' := [(5, .int (v5 ||| 2)), (0, .ref ((a_t 0))), (1, .ref ((a_p1 0))), (2, .int v2), (4, .int v4)]) hx hb dX0_shapeOf_43 hl (by decide) rfl (fun ls hl => ?_)
    exact w45 v2 v4 (v5 ||| 2) _ (lv_sub hl [1, 2, 3, 4, 0] rfl) h
  have w16 : ∀ (v2 : Int32) (v3 : Int32) (v4 : Int32) (z0 : Int32) (ls : Array Slot), lv_has ls 6 [(0, .ref ((a_t 0))), (1, .ref ((a_p1 0))), (2, .int v2), (3, .int v3), (4, .int v4)] → fX0_shapeOf_16  t_plies p1_cells v2 v3 v4 z0 = some o → W p l e ⟨3, 0, 0, 76⟩ s m args below meth c s.heap [] 0 0 Q (F0 m 16 ls [.int z0]) := by
    intro v2 v3 v4 z0 ls hl h
    unfold fX0_shapeOf_16 at h
    refine lv_istore (lv' := [(5, .int z0), (0, .ref ((a_t 0))), (1, .ref ((a_p1 0))), (2, .int v2), (3, .int v3), (4, .int v4)]) hx hb dX0_shapeOf_16 hl (by decide) rfl (fun ls hl => ?_)
    refine lv_iload hx hb dX0_shapeOf_18 (lv_at hl 0 rfl) ?_
    refine lv_if_ne (tgt := 39) hx hb dX0_shapeOf_20 (by decide) (fun c5 => ?_) (fun c5 => ?_)
    · have h := itn c5 h
      exact w39 v2 v4 z0 _ (lv_sub hl [1, 2, 3, 5, 0] rfl) h
    · have h := itp c5 h
      refine lv_iload_n hx hb dX0_shapeOf_23 rfl (lv_at hl 4 rfl) ?_
      refine lv_if_ne (tgt := 45) hx hb dX0_shapeOf_24 (by decide) (fun c6 => ?_) (fun c6 => ?_)
      · have h := itn c6 h
        exact w45 v2 v4 z0 _ (lv_sub hl [1, 2, 3, 5, 0] rfl) h
      · have h := itp c6 h
        refine lv_aload_n hx hb dX0_shapeOf_27 rfl (lv_at hl 2 rfl) ?_
        refine lv_iload_n hx hb dX0_shapeOf_28 rfl (lv_at hl 3 rfl) ?_
        refine lv_aload_n hx hb dX0_shapeOf_29 rfl (lv_at hl 1 rfl) ?_
        refine xa_get (C := RX0) (T := TX0) (N := 7) cx hG hP 0 rfl rfl uX0 5 (by decide) lf_X0_41 rfl dX0_shapeOf_30 ?_
        obtain ⟨r7, hr8, h⟩ := bnd h
        refine ro_z (runVN (As := [.int v2, .int t_plies]) (rest := []) hG cx hl.1 (ctX1_isRowFlat l g a_p1 p1_told p1_lines p1_kinds p1_acts p1_cells v2 t_plies r7 hr8) kmX1_isRowFlat kvX1_isRowFlat nm_59 ⟨rfl, rfl⟩ ⟨Nat.le_of_ble_eq_true rfl, Nat.le_of_ble_eq_true rfl⟩ (roV (q0 := 1) (ci := 1) hG (hP.sub [1, 2] rfl) hP rfl rfl) rfl rfl (Nat.le_of_ble_eq_true rfl) dX0_shapeOf_33 ⟨Nat.le_of_ble_eq_true rfl, Nat.le_of_ble_eq_true rfl⟩) (fun hz9 => ?_)
        refine lv_if_eq (tgt := 45) hx hb dX0_shapeOf_36 (by decide) (fun c10 => ?_) (fun c10 => ?_)
        · have h := itp c10 h
          exact w45 v2 v4 z0 _ (lv_sub hl [1, 2, 3, 5, 0] rfl) h
        · have h := itn c10 h
          exact w39 v2 v4 z0 _ (lv_sub hl [1, 2, 3, 5, 0] rfl) h
  unfold fX0_shapeOf at h
  refine lv_iload_n hx hb dX0_shapeOf_0 rfl (lv_at hl 2 rfl) ?_
  refine lv_aload_n hx hb dX0_shapeOf_1 rfl (lv_at hl 0 rfl) ?_
  refine xa_get (C := RX0) (T := TX0) (N := 7) cx hG hP 0 rfl rfl uX0 5 (by decide) lf_X0_41 rfl dX0_shapeOf_2 ?_
  obtain ⟨r1, hr2, h⟩ := bnd h
  refine ro_z (runSN (As := [.int v2, .int t_plies]) (rest := []) hG cx hl.1 (ctX3_isMirrored l g v2 t_plies r1 hr2) kmX3_isMirrored ksX3_isMirrored nm_58 ⟨rfl, rfl⟩ ⟨Nat.le_of_ble_eq_true rfl, Nat.le_of_ble_eq_true rfl⟩ (roS hG (hP.sub [] rfl)) rfl rfl (Nat.le_of_ble_eq_true rfl) dX0_shapeOf_5 ⟨Nat.le_of_ble_eq_true rfl, Nat.le_of_ble_eq_true rfl⟩) (fun hz3 => ?_)
  refine lv_if_eq (tgt := 15) hx hb dX0_shapeOf_8 (by decide) (fun c4 => ?_) (fun c4 => ?_)
  · have h := itp c4 h
    refine lv_iconst (v := 0) hx hb dX0_shapeOf_15 (by decide) ?_
    exact w16 v2 v3 v4 0 _ (lv_sub hl [0, 1, 2, 3, 4] rfl) h
  · have h := itn c4 h
    refine lv_iconst (v := 1) hx hb dX0_shapeOf_11 (by decide) ?_
    refine lv_goto (tgt := 16) hx hb dX0_shapeOf_12 (by decide) ?_
    exact w16 v2 v3 v4 1 _ (lv_sub hl [0, 1, 2, 3, 4] rfl) h
-- X0_store
theorem dX0_store_0 : decode cX0_store 0 = .ok (.aload_n 0, 1) := by decide +kernel
theorem dX0_store_1 : decode cX0_store 1 = .ok (.getfield 49, 3) := by decide +kernel
theorem dX0_store_4 : decode cX0_store 4 = .ok (.aload_n 0, 1) := by decide +kernel
theorem dX0_store_5 : decode cX0_store 5 = .ok (.getfield 9, 3) := by decide +kernel
theorem dX0_store_8 : decode cX0_store 8 = .ok (.arraylength, 1) := by decide +kernel
theorem dX0_store_9 : decode cX0_store 9 = .ok (.if_icmp .ge 34, 3) := by decide +kernel
theorem dX0_store_12 : decode cX0_store 12 = .ok (.aload_n 0, 1) := by decide +kernel
theorem dX0_store_13 : decode cX0_store 13 = .ok (.getfield 9, 3) := by decide +kernel
theorem dX0_store_16 : decode cX0_store 16 = .ok (.aload_n 0, 1) := by decide +kernel
theorem dX0_store_17 : decode cX0_store 17 = .ok (.getfield 49, 3) := by decide +kernel
theorem dX0_store_20 : decode cX0_store 20 = .ok (.iload_n 1, 1) := by decide +kernel
theorem dX0_store_21 : decode cX0_store 21 = .ok (.i2l, 1) := by decide +kernel
theorem dX0_store_22 : decode cX0_store 22 = .ok (.ldc2_w 93, 3) := by decide +kernel
theorem dX0_store_25 : decode cX0_store 25 = .ok (.land, 1) := by decide +kernel
theorem dX0_store_26 : decode cX0_store 26 = .ok (.iload_n 2, 1) := by decide +kernel
theorem dX0_store_27 : decode cX0_store 27 = .ok (.i2l, 1) := by decide +kernel
theorem dX0_store_28 : decode cX0_store 28 = .ok (.bipush 32, 2) := by decide +kernel
theorem dX0_store_30 : decode cX0_store 30 = .ok (.lshl, 1) := by decide +kernel
theorem dX0_store_31 : decode cX0_store 31 = .ok (.lor, 1) := by decide +kernel
theorem dX0_store_32 : decode cX0_store 32 = .ok (.lastore, 1) := by decide +kernel
theorem dX0_store_33 : decode cX0_store 33 = .ok (.aload_n 0, 1) := by decide +kernel
theorem dX0_store_34 : decode cX0_store 34 = .ok (.dup, 1) := by decide +kernel
theorem dX0_store_35 : decode cX0_store 35 = .ok (.getfield 49, 3) := by decide +kernel
theorem dX0_store_38 : decode cX0_store 38 = .ok (.iconst 1, 1) := by decide +kernel
theorem dX0_store_39 : decode cX0_store 39 = .ok (.iadd, 1) := by decide +kernel
theorem dX0_store_40 : decode cX0_store 40 = .ok (.putfield 49, 3) := by decide +kernel
theorem dX0_store_43 : decode cX0_store 43 = .ok (.return_, 1) := by decide +kernel
noncomputable def fX0_store  (t_rows_n : Nat) (t_rows : Nat → Int64) (t_size : Int32) (v1 : Int32) (v2 : Int32) : Option ((Nat → Int64) × Int32) := (if (nI t_rows_n) ≤ t_size then some (t_rows, t_size) else chk t_rows_n t_size (some (vp_updL t_rows t_size.toNatClampNeg ((v1.toInt64 &&& 4294967295) ||| (lshl v2.toInt64 32)), t_size + 1)))
set_option maxHeartbeats 4000000 in
set_option maxRecDepth 100000 in
theorem ctX0_store (l : Launch) (g : GT) (sz : Nat) (a_t : Nat → Nat) (b_t_rows : Nat) (b_t_seen : Nat) (t_size : Int32) (t_ready : Int32) (t_pool : Int32) (t_plies : Int32) (t_room : Int32) (t_rows_n : Nat) (t_rows : Nat → Int64) (v1 : Int32) (v2 : Int32) (o_t_rows : Nat → Int64) (o_t_size : Int32) (h : fX0_store t_rows_n t_rows t_size v1 v2 = some (o_t_rows, o_t_size)) : Met l yX0_store (Cond.code yX0_store cX0_store 3 none :: Tw) ⟨0, 0, 0, 0⟩ (va_Pc [.ref ((a_t 0)), .int v1, .int v2] (rwB g [((a_t 0), .inr (0, [.ref b_t_rows, .ref b_t_seen, .int t_size, .int t_ready, .int t_pool, .int t_plies, .int t_room])), (b_t_rows, .inl (g.2.2.1 1, t_rows_n, .inr (.inl t_rows)))] sz)) (va_Qv (fun (_ : Nat → Nat) => True) (fun u => rwE g (va_A [((a_t 0), .inr (0, [.ref b_t_rows, .ref b_t_seen, .int t_size, .int t_ready, .int t_pool, .int t_plies, .int t_room])), (b_t_rows, .inl (g.2.2.1 1, t_rows_n, .inr (.inl t_rows)))] sz) [((a_t 0), .inr (0, [.ref b_t_rows, .ref b_t_seen, .int o_t_size, .int t_ready, .int t_pool, .int t_plies, .int t_room])), (b_t_rows, .inl (g.2.2.1 1, t_rows_n, .inr (.inl o_t_rows)))]) (va_A [((a_t 0), .inr (0, [.ref b_t_rows, .ref b_t_seen, .int t_size, .int t_ready, .int t_pool, .int t_plies, .int t_room])), (b_t_rows, .inl (g.2.2.1 1, t_rows_n, .inr (.inl t_rows)))] sz)) 0 0 (va_A [((a_t 0), .inr (0, [.ref b_t_rows, .ref b_t_seen, .int t_size, .int t_ready, .int t_pool, .int t_plies, .int t_room])), (b_t_rows, .inl (g.2.2.1 1, t_rows_n, .inr (.inl t_rows)))] sz) := by
  refine rw_metv (by decide) (Nat.le_of_ble_eq_true rfl) (lv0 := [(0, .ref ((a_t 0))), (1, .int v1), (2, .int v2)]) rfl ?_
  intro p e s m args below meth c ls Q A cx hret hG hAb hb0 hA hP hD hl
  have hx := cx.1
  have hb := cx.2.1
  have hG0 := hG
  have hGk : ∀ {H : Heap} {locs : List Loc}, va_S A s.heap H locs → GE g s H := fun hS => hG0.keptS hAb hS
  have hSb : ∀ {H : Heap} {locs : List Loc}, va_S A s.heap H locs → va_S (fun a => g.1 ≤ a) s.heap H locs := fun hS => ⟨hS.1, fun q h1 h2 => hS.2.1 q h1 (fun z => h2 (hAb q z)), fun l hl => hAb _ (hS.2.2 l hl)⟩
  have hS : va_S A s.heap s.heap [] := va_S.rf
  unfold fX0_store at h
  refine lv_aload_n hx hb dX0_store_0 rfl (lv_at hl 0 rfl) ?_
  refine xa_get (C := RX0) (T := TX0) (N := 7) cx hG hP 0 rfl rfl uX0 2 (by decide) lf_X0_49 rfl dX0_store_1 ?_
  refine lv_aload_n hx hb dX0_store_4 rfl (lv_at hl 0 rfl) ?_
  refine xa_get (C := RX0) (T := TX0) (N := 7) cx hG hP 0 rfl rfl uX0 0 (by decide) lf_X0_9 rfl dX0_store_5 ?_
  refine xa_len cx hG hP 1 rfl 1 rfl (v := nI t_rows_n) rfl dX0_store_8 ?_
  refine lv_icmp_ge (tgt := 43) hx hb dX0_store_9 (by decide) (fun c1 => ?_) (fun c1 => ?_)
  · have h := itp c1 h
    cases h
    exact hret (fun _ => 0) _ _ _ _ dX0_store_43 (hP.sub [0, 1] rfl) (hD.sub [0, 1] (by decide) rfl) hS
  · have h := itn c1 h
    refine lv_aload_n hx hb dX0_store_12 rfl (lv_at hl 0 rfl) ?_
    refine xa_get (C := RX0) (T := TX0) (N := 7) cx hG hP 0 rfl rfl uX0 0 (by decide) lf_X0_9 rfl dX0_store_13 ?_
    refine lv_aload_n hx hb dX0_store_16 rfl (lv_at hl 0 rfl) ?_
    refine xa_get (C := RX0) (T := TX0) (N := 7) cx hG hP 0 rfl rfl uX0 2 (by decide) lf_X0_49 rfl dX0_store_17 ?_
    refine lv_iload_n hx hb dX0_store_20 rfl (lv_at hl 1 rfl) ?_
    refine lv_i2l (v := v1.toInt64) hx hb dX0_store_21 rfl ?_
    refine lv_ldc2 (own := RX0) (v := 4294967295) hx hb cx.2.2.2.1 (cx.2.2.2.2 _ cl_X0_93) dX0_store_22 ?_
    refine lv_land hx hb dX0_store_25 ?_
    refine lv_iload_n hx hb dX0_store_26 rfl (lv_at hl 2 rfl) ?_
    refine lv_i2l (v := v2.toInt64) hx hb dX0_store_27 rfl ?_
    refine lv_bipush (v := 32) hx hb dX0_store_28 (by decide) ?_
    refine lv_lshl (v := lshl v2.toInt64 32) hx hb dX0_store_30 rfl ?_
    refine lv_lor hx hb dX0_store_31 ?_
    obtain ⟨hi2, h⟩ := chk_out h
    refine xw_last (ws' := [((a_t 0), .inr (0, [.ref b_t_rows, .ref b_t_seen, .int t_size, .int t_ready, .int t_pool, .int t_plies, .int t_room])), (b_t_rows, .inl (g.2.2.1 1, t_rows_n, .inr (.inl (vp_updL t_rows t_size.toNatClampNeg ((v1.toInt64 &&& 4294967295) ||| (lshl v2.toInt64 32))))))]) (k := t_size.toNatClampNeg) cx hG hP hD hS 1 rfl hi2 rfl rfl dX0_store_32 (fun H locs hP hD hS => ?_)
    have hG := hGk hS
    refine lv_aload_n hx hb dX0_store_33 rfl (lv_at hl 0 rfl) ?_
    refine lv_dup hx hb dX0_store_34 rfl ?_
    refine xa_get (C := RX0) (T := TX0) (N := 7) cx hG hP 0 rfl rfl uX0 2 (by decide) lf_X0_49 rfl dX0_store_35 ?_
    refine lv_iconst (v := 1) hx hb dX0_store_38 (by decide) ?_
    refine lv_iadd hx hb dX0_store_39 ?_
    refine xw_put (C := RX0) (T := TX0) (N := 7) (ty := .int) (v := .int (t_size + 1)) (ws' := [((a_t 0), .inr (0, [.ref b_t_rows, .ref b_t_seen, .int (t_size + 1), .int t_ready, .int t_pool, .int t_plies, .int t_room])), (b_t_rows, .inl (g.2.2.1 1, t_rows_n, .inr (.inl (vp_updL t_rows t_size.toNatClampNeg ((v1.toInt64 &&& 4294967295) ||| (lshl v2.toInt64 32))))))]) cx hG hP hD hS 0 rfl rfl uX0 tyX0 tyX0_ok nmX0 2 (by decide) lf_X0_49 rfl (by decide +kernel) rfl rfl (Nat.le_of_ble_eq_true rfl) rfl dX0_store_40 (fun H locs hP hD hS => ?_)
    have hG := hGk hS
    cases h
    exact hret (fun _ => 0) _ _ _ _ dX0_store_43 (hP.sub [0, 1] rfl) (hD.sub [0, 1] (by decide) rfl) hS
-- X3_farOf
theorem dX3_farOf_0 : decode cX3_farOf 0 = .ok (.iconst 2, 1) := by decide +kernel
theorem dX3_farOf_1 : decode cX3_farOf 1 = .ok (.iload_n 0, 1) := by decide +kernel
theorem dX3_farOf_2 : decode cX3_farOf 2 = .ok (.imul, 1) := by decide +kernel
theorem dX3_farOf_3 : decode cX3_farOf 3 = .ok (.iconst 1, 1) := by decide +kernel
theorem dX3_farOf_4 : decode cX3_farOf 4 = .ok (.iadd, 1) := by decide +kernel
theorem dX3_farOf_5 : decode cX3_farOf 5 = .ok (.iload_n 1, 1) := by decide +kernel
theorem dX3_farOf_6 : decode cX3_farOf 6 = .ok (.isub, 1) := by decide +kernel
theorem dX3_farOf_7 : decode cX3_farOf 7 = .ok (.ireturn, 1) := by decide +kernel
noncomputable def fX3_farOf  (v0 : Int32) (v1 : Int32) : Int32 := (((2 * v0) + 1) - v1)
set_option maxHeartbeats 4000000 in
set_option maxRecDepth 100000 in
theorem ctX3_farOf (l : Launch) (g : GT) (v0 : Int32) (v1 : Int32) (o : Int32) (h : fX3_farOf v0 v1 = o) : Met l yX3_farOf (Cond.code yX3_farOf cX3_farOf 2 (some .int) :: Tw) ⟨0, 0, 0, 0⟩ (va_Pc [.int v0, .int v1] (roB g [])) (vp_Si (fun x => x = o)) 0 0 (fun _ => False) := by
  refine ro_meti (by decide) (Nat.le_of_ble_eq_true rfl) (lv0 := [(0, .int v0), (1, .int v1)]) rfl ?_
  intro p e s m args below meth c ls Q cx hret hG hP hl
  have hx := cx.1
  have hb := cx.2.1
  have hG0 := hG
  unfold fX3_farOf at h
  refine lv_iconst (v := 2) hx hb dX3_farOf_0 (by decide) ?_
  refine lv_iload_n hx hb dX3_farOf_1 rfl (lv_at hl 0 rfl) ?_
  refine lv_imul hx hb dX3_farOf_2 ?_
  refine lv_iconst (v := 1) hx hb dX3_farOf_3 (by decide) ?_
  refine lv_iadd hx hb dX3_farOf_4 ?_
  refine lv_iload_n hx hb dX3_farOf_5 rfl (lv_at hl 1 rfl) ?_
  refine lv_isub hx hb dX3_farOf_6 ?_
  exact hret _ _ _ dX3_farOf_7 h
-- X1_cellAt
theorem dX1_cellAt_0 : decode cX1_cellAt 0 = .ok (.aload_n 0, 1) := by decide +kernel
theorem dX1_cellAt_1 : decode cX1_cellAt 1 = .ok (.getfield 15, 3) := by decide +kernel
theorem dX1_cellAt_4 : decode cX1_cellAt 4 = .ok (.iload_n 1, 1) := by decide +kernel
theorem dX1_cellAt_5 : decode cX1_cellAt 5 = .ok (.bipush 15, 2) := by decide +kernel
theorem dX1_cellAt_7 : decode cX1_cellAt 7 = .ok (.iand, 1) := by decide +kernel
theorem dX1_cellAt_8 : decode cX1_cellAt 8 = .ok (.bipush 9, 2) := by decide +kernel
theorem dX1_cellAt_10 : decode cX1_cellAt 10 = .ok (.imul, 1) := by decide +kernel
theorem dX1_cellAt_11 : decode cX1_cellAt 11 = .ok (.iload_n 2, 1) := by decide +kernel
theorem dX1_cellAt_12 : decode cX1_cellAt 12 = .ok (.iadd, 1) := by decide +kernel
theorem dX1_cellAt_13 : decode cX1_cellAt 13 = .ok (.iaload, 1) := by decide +kernel
theorem dX1_cellAt_14 : decode cX1_cellAt 14 = .ok (.ireturn, 1) := by decide +kernel
noncomputable def fX1_cellAt  (t_cells : Nat → Int32) (v1 : Int32) (v2 : Int32) : Option (Int32) := chk 144 (((v1 &&& 15) * 9) + v2) (some (t_cells (((v1 &&& 15) * 9) + v2).toNatClampNeg))
set_option maxHeartbeats 4000000 in
set_option maxRecDepth 100000 in
theorem ctX1_cellAt (l : Launch) (g : GT) (a_t : Nat → Nat) (t_told : Int32) (t_lines : Int32) (t_kinds : Int32) (t_acts : Int32) (t_cells : Nat → Int32) (v1 : Int32) (v2 : Int32) (o : Int32) (h : fX1_cellAt t_cells v1 v2 = some o) : Met l yX1_cellAt (Cond.code yX1_cellAt cX1_cellAt 3 (some .int) :: Tw) ⟨0, 0, 0, 0⟩ (va_Pc [.ref ((a_t 0)), .int v1, .int v2] (roB g [((a_t 0), .inr (1, [.ref (a_t 1), .ref (a_t 2), .ref (a_t 3), .ref (a_t 4), .ref (a_t 5), .int t_told, .int t_lines, .int t_kinds, .int t_acts])), ((a_t 2), .inl (g.2.2.1 0, 144, .inl t_cells))])) (vp_Si (fun x => x = o)) 0 0 (fun _ => False) := by
  refine ro_meti (by decide) (Nat.le_of_ble_eq_true rfl) (lv0 := [(0, .ref ((a_t 0))), (1, .int v1), (2, .int v2)]) rfl ?_
  intro p e s m args below meth c ls Q cx hret hG hP hl
  have hx := cx.1
  have hb := cx.2.1
  have hG0 := hG
  unfold fX1_cellAt at h
  refine lv_aload_n hx hb dX1_cellAt_0 rfl (lv_at hl 0 rfl) ?_
  refine xa_get (C := RX1) (T := TX1) (N := 9) cx hG hP 0 rfl rfl uX1 1 (by decide) lf_X1_15 rfl dX1_cellAt_1 ?_
  refine lv_iload_n hx hb dX1_cellAt_4 rfl (lv_at hl 1 rfl) ?_
  refine lv_bipush (v := 15) hx hb dX1_cellAt_5 (by decide) ?_
  refine lv_iand hx hb dX1_cellAt_7 ?_
  refine lv_bipush (v := 9) hx hb dX1_cellAt_8 (by decide) ?_
  refine lv_imul hx hb dX1_cellAt_10 ?_
  refine lv_iload_n hx hb dX1_cellAt_11 rfl (lv_at hl 2 rfl) ?_
  refine lv_iadd hx hb dX1_cellAt_12 ?_
  obtain ⟨hi1, h⟩ := chk_out h
  refine xa_iald cx hG hP 1 rfl hi1 rfl dX1_cellAt_13 ?_
  exact hret _ _ _ dX1_cellAt_14 (Option.some.inj h)
-- X3_angleAt
theorem dX3_angleAt_0 : decode cX3_angleAt 0 = .ok (.iload_n 0, 1) := by decide +kernel
theorem dX3_angleAt_1 : decode cX3_angleAt 1 = .ok (.iconst 4, 1) := by decide +kernel
theorem dX3_angleAt_2 : decode cX3_angleAt 2 = .ok (.iload_n 1, 1) := by decide +kernel
theorem dX3_angleAt_3 : decode cX3_angleAt 3 = .ok (.imul, 1) := by decide +kernel
theorem dX3_angleAt_4 : decode cX3_angleAt 4 = .ok (.iushr, 1) := by decide +kernel
theorem dX3_angleAt_5 : decode cX3_angleAt 5 = .ok (.iconst 3, 1) := by decide +kernel
theorem dX3_angleAt_6 : decode cX3_angleAt 6 = .ok (.iand, 1) := by decide +kernel
theorem dX3_angleAt_7 : decode cX3_angleAt 7 = .ok (.ireturn, 1) := by decide +kernel
noncomputable def fX3_angleAt  (v0 : Int32) (v1 : Int32) : Int32 := ((iushr v0 (4 * v1)) &&& 3)
set_option maxHeartbeats 4000000 in
set_option maxRecDepth 100000 in
theorem ctX3_angleAt (l : Launch) (g : GT) (v0 : Int32) (v1 : Int32) (o : Int32) (h : fX3_angleAt v0 v1 = o) : Met l yX3_angleAt (Cond.code yX3_angleAt cX3_angleAt 2 (some .int) :: Tw) ⟨0, 0, 0, 0⟩ (va_Pc [.int v0, .int v1] (roB g [])) (vp_Si (fun x => x = o)) 0 0 (fun _ => False) := by
  refine ro_meti (by decide) (Nat.le_of_ble_eq_true rfl) (lv0 := [(0, .int v0), (1, .int v1)]) rfl ?_
  intro p e s m args below meth c ls Q cx hret hG hP hl
  have hx := cx.1
  have hb := cx.2.1
  have hG0 := hG
  unfold fX3_angleAt at h
  refine lv_iload_n hx hb dX3_angleAt_0 rfl (lv_at hl 0 rfl) ?_
  refine lv_iconst (v := 4) hx hb dX3_angleAt_1 (by decide) ?_
  refine lv_iload_n hx hb dX3_angleAt_2 rfl (lv_at hl 1 rfl) ?_
  refine lv_imul hx hb dX3_angleAt_3 ?_
  refine lv_iushr (v := iushr v0 (4 * v1)) hx hb dX3_angleAt_4 rfl ?_
  refine lv_iconst (v := 3) hx hb dX3_angleAt_5 (by decide) ?_
  refine lv_iand hx hb dX3_angleAt_6 ?_
  exact hret _ _ _ dX3_angleAt_7 h
-- X0_lay
theorem dX0_lay_0 : decode cX0_lay 0 = .ok (.iload_n 2, 1) := by decide +kernel
theorem dX0_lay_1 : decode cX0_lay 1 = .ok (.aload_n 0, 1) := by decide +kernel
theorem dX0_lay_2 : decode cX0_lay 2 = .ok (.getfield 41, 3) := by decide +kernel
theorem dX0_lay_5 : decode cX0_lay 5 = .ok (.if_icmp .ge 9, 3) := by decide +kernel
theorem dX0_lay_8 : decode cX0_lay 8 = .ok (.iload_n 2, 1) := by decide +kernel
theorem dX0_lay_9 : decode cX0_lay 9 = .ok (.bipush 8, 2) := by decide +kernel
theorem dX0_lay_11 : decode cX0_lay 11 = .ok (.if_icmp .lt 19, 3) := by decide +kernel
theorem dX0_lay_14 : decode cX0_lay 14 = .ok (.aload_n 0, 1) := by decide +kernel
theorem dX0_lay_15 : decode cX0_lay 15 = .ok (.iload_n 3, 1) := by decide +kernel
theorem dX0_lay_16 : decode cX0_lay 16 = .ok (.aload_n 0, 1) := by decide +kernel
theorem dX0_lay_17 : decode cX0_lay 17 = .ok (.aload_n 1, 1) := by decide +kernel
theorem dX0_lay_18 : decode cX0_lay 18 = .ok (.iload_n 3, 1) := by decide +kernel
theorem dX0_lay_19 : decode cX0_lay 19 = .ok (.iload 6, 2) := by decide +kernel
theorem dX0_lay_21 : decode cX0_lay 21 = .ok (.iload 7, 2) := by decide +kernel
theorem dX0_lay_23 : decode cX0_lay 23 = .ok (.invokevirtual 62, 3) := by decide +kernel
theorem dX0_lay_26 : decode cX0_lay 26 = .ok (.invokevirtual 66, 3) := by decide +kernel
theorem dX0_lay_29 : decode cX0_lay 29 = .ok (.return_, 1) := by decide +kernel
theorem dX0_lay_30 : decode cX0_lay 30 = .ok (.iload_n 2, 1) := by decide +kernel
theorem dX0_lay_31 : decode cX0_lay 31 = .ok (.ifCond .le 13, 3) := by decide +kernel
theorem dX0_lay_34 : decode cX0_lay 34 = .ok (.iload_n 3, 1) := by decide +kernel
theorem dX0_lay_35 : decode cX0_lay 35 = .ok (.iload_n 2, 1) := by decide +kernel
theorem dX0_lay_36 : decode cX0_lay 36 = .ok (.iconst 1, 1) := by decide +kernel
theorem dX0_lay_37 : decode cX0_lay 37 = .ok (.isub, 1) := by decide +kernel
theorem dX0_lay_38 : decode cX0_lay 38 = .ok (.invokestatic 70, 3) := by decide +kernel
theorem dX0_lay_41 : decode cX0_lay 41 = .ok (.goto 4, 3) := by decide +kernel
theorem dX0_lay_44 : decode cX0_lay 44 = .ok (.iconst (-1), 1) := by decide +kernel
theorem dX0_lay_45 : decode cX0_lay 45 = .ok (.istore 8, 2) := by decide +kernel
theorem dX0_lay_47 : decode cX0_lay 47 = .ok (.iload_n 2, 1) := by decide +kernel
theorem dX0_lay_48 : decode cX0_lay 48 = .ok (.aload_n 0, 1) := by decide +kernel
theorem dX0_lay_49 : decode cX0_lay 49 = .ok (.getfield 41, 3) := by decide +kernel
theorem dX0_lay_52 : decode cX0_lay 52 = .ok (.invokestatic 73, 3) := by decide +kernel
theorem dX0_lay_55 : decode cX0_lay 55 = .ok (.istore 9, 2) := by decide +kernel
theorem dX0_lay_57 : decode cX0_lay 57 = .ok (.iload 9, 2) := by decide +kernel
theorem dX0_lay_59 : decode cX0_lay 59 = .ok (.invokestatic 76, 3) := by decide +kernel
theorem dX0_lay_62 : decode cX0_lay 62 = .ok (.istore 10, 2) := by decide +kernel
theorem dX0_lay_64 : decode cX0_lay 64 = .ok (.iconst (-1), 1) := by decide +kernel
theorem dX0_lay_65 : decode cX0_lay 65 = .ok (.istore 11, 2) := by decide +kernel
theorem dX0_lay_67 : decode cX0_lay 67 = .ok (.iconst 0, 1) := by decide +kernel
theorem dX0_lay_68 : decode cX0_lay 68 = .ok (.istore 12, 2) := by decide +kernel
theorem dX0_lay_70 : decode cX0_lay 70 = .ok (.iload 12, 2) := by decide +kernel
theorem dX0_lay_72 : decode cX0_lay 72 = .ok (.aload_n 0, 1) := by decide +kernel
theorem dX0_lay_73 : decode cX0_lay 73 = .ok (.getfield 41, 3) := by decide +kernel
theorem dX0_lay_76 : decode cX0_lay 76 = .ok (.if_icmp .ge 137, 3) := by decide +kernel
theorem dX0_lay_79 : decode cX0_lay 79 = .ok (.iload 5, 2) := by decide +kernel
theorem dX0_lay_81 : decode cX0_lay 81 = .ok (.iload 12, 2) := by decide +kernel
theorem dX0_lay_83 : decode cX0_lay 83 = .ok (.ishr, 1) := by decide +kernel
theorem dX0_lay_84 : decode cX0_lay 84 = .ok (.iconst 1, 1) := by decide +kernel
theorem dX0_lay_85 : decode cX0_lay 85 = .ok (.iand, 1) := by decide +kernel
theorem dX0_lay_86 : decode cX0_lay 86 = .ok (.ifCond .eq 6, 3) := by decide +kernel
theorem dX0_lay_89 : decode cX0_lay 89 = .ok (.goto 118, 3) := by decide +kernel
theorem dX0_lay_92 : decode cX0_lay 92 = .ok (.aload_n 0, 1) := by decide +kernel
theorem dX0_lay_93 : decode cX0_lay 93 = .ok (.getfield 37, 3) := by decide +kernel
theorem dX0_lay_96 : decode cX0_lay 96 = .ok (.iconst 4, 1) := by decide +kernel
theorem dX0_lay_97 : decode cX0_lay 97 = .ok (.iload 12, 2) := by decide +kernel
theorem dX0_lay_99 : decode cX0_lay 99 = .ok (.imul, 1) := by decide +kernel
theorem dX0_lay_100 : decode cX0_lay 100 = .ok (.iushr, 1) := by decide +kernel
theorem dX0_lay_101 : decode cX0_lay 101 = .ok (.bipush 15, 2) := by decide +kernel
theorem dX0_lay_103 : decode cX0_lay 103 = .ok (.iand, 1) := by decide +kernel
theorem dX0_lay_104 : decode cX0_lay 104 = .ok (.istore 13, 2) := by decide +kernel
theorem dX0_lay_106 : decode cX0_lay 106 = .ok (.iload 13, 2) := by decide +kernel
theorem dX0_lay_108 : decode cX0_lay 108 = .ok (.iconst 3, 1) := by decide +kernel
theorem dX0_lay_109 : decode cX0_lay 109 = .ok (.iand, 1) := by decide +kernel
theorem dX0_lay_110 : decode cX0_lay 110 = .ok (.iload 8, 2) := by decide +kernel
theorem dX0_lay_112 : decode cX0_lay 112 = .ok (.if_icmp .ne 10, 3) := by decide +kernel
theorem dX0_lay_115 : decode cX0_lay 115 = .ok (.iload 4, 2) := by decide +kernel
theorem dX0_lay_117 : decode cX0_lay 117 = .ok (.iconst 1, 1) := by decide +kernel
theorem dX0_lay_118 : decode cX0_lay 118 = .ok (.iadd, 1) := by decide +kernel
theorem dX0_lay_119 : decode cX0_lay 119 = .ok (.goto 4, 3) := by decide +kernel
theorem dX0_lay_122 : decode cX0_lay 122 = .ok (.iconst 1, 1) := by decide +kernel
theorem dX0_lay_123 : decode cX0_lay 123 = .ok (.istore 14, 2) := by decide +kernel
theorem dX0_lay_125 : decode cX0_lay 125 = .ok (.iload 13, 2) := by decide +kernel
theorem dX0_lay_127 : decode cX0_lay 127 = .ok (.iload 11, 2) := by decide +kernel
theorem dX0_lay_129 : decode cX0_lay 129 = .ok (.if_icmp .eq 78, 3) := by decide +kernel
theorem dX0_lay_132 : decode cX0_lay 132 = .ok (.iload 14, 2) := by decide +kernel
theorem dX0_lay_134 : decode cX0_lay 134 = .ok (.aload_n 0, 1) := by decide +kernel
theorem dX0_lay_135 : decode cX0_lay 135 = .ok (.getfield 43, 3) := by decide +kernel
theorem dX0_lay_138 : decode cX0_lay 138 = .ok (.if_icmp .le 6, 3) := by decide +kernel
theorem dX0_lay_141 : decode cX0_lay 141 = .ok (.goto 66, 3) := by decide +kernel
theorem dX0_lay_144 : decode cX0_lay 144 = .ok (.iload 13, 2) := by decide +kernel
theorem dX0_lay_146 : decode cX0_lay 146 = .ok (.istore 11, 2) := by decide +kernel
theorem dX0_lay_148 : decode cX0_lay 148 = .ok (.iload 6, 2) := by decide +kernel
theorem dX0_lay_150 : decode cX0_lay 150 = .ok (.iload 9, 2) := by decide +kernel
theorem dX0_lay_152 : decode cX0_lay 152 = .ok (.aload_n 1, 1) := by decide +kernel
theorem dX0_lay_153 : decode cX0_lay 153 = .ok (.iload 13, 2) := by decide +kernel
theorem dX0_lay_155 : decode cX0_lay 155 = .ok (.iconst 0, 1) := by decide +kernel
theorem dX0_lay_156 : decode cX0_lay 156 = .ok (.invokevirtual 80, 3) := by decide +kernel
theorem dX0_lay_159 : decode cX0_lay 159 = .ok (.imul, 1) := by decide +kernel
theorem dX0_lay_160 : decode cX0_lay 160 = .ok (.iadd, 1) := by decide +kernel
theorem dX0_lay_161 : decode cX0_lay 161 = .ok (.istore 15, 2) := by decide +kernel
theorem dX0_lay_163 : decode cX0_lay 163 = .ok (.iload 7, 2) := by decide +kernel
theorem dX0_lay_165 : decode cX0_lay 165 = .ok (.iload 10, 2) := by decide +kernel
theorem dX0_lay_167 : decode cX0_lay 167 = .ok (.aload_n 1, 1) := by decide +kernel
theorem dX0_lay_168 : decode cX0_lay 168 = .ok (.iload 13, 2) := by decide +kernel
theorem dX0_lay_170 : decode cX0_lay 170 = .ok (.iconst 2, 1) := by decide +kernel
theorem dX0_lay_171 : decode cX0_lay 171 = .ok (.invokevirtual 80, 3) := by decide +kernel
theorem dX0_lay_174 : decode cX0_lay 174 = .ok (.imul, 1) := by decide +kernel
theorem dX0_lay_175 : decode cX0_lay 175 = .ok (.iadd, 1) := by decide +kernel
theorem dX0_lay_176 : decode cX0_lay 176 = .ok (.istore 16, 2) := by decide +kernel
theorem dX0_lay_178 : decode cX0_lay 178 = .ok (.aload_n 0, 1) := by decide +kernel
theorem dX0_lay_179 : decode cX0_lay 179 = .ok (.aload_n 1, 1) := by decide +kernel
theorem dX0_lay_180 : decode cX0_lay 180 = .ok (.iload_n 2, 1) := by decide +kernel
theorem dX0_lay_181 : decode cX0_lay 181 = .ok (.iconst 1, 1) := by decide +kernel
theorem dX0_lay_182 : decode cX0_lay 182 = .ok (.iadd, 1) := by decide +kernel
theorem dX0_lay_183 : decode cX0_lay 183 = .ok (.iload_n 3, 1) := by decide +kernel
theorem dX0_lay_184 : decode cX0_lay 184 = .ok (.iload 13, 2) := by decide +kernel
theorem dX0_lay_186 : decode cX0_lay 186 = .ok (.iconst 4, 1) := by decide +kernel
theorem dX0_lay_187 : decode cX0_lay 187 = .ok (.iload_n 2, 1) := by decide +kernel
theorem dX0_lay_188 : decode cX0_lay 188 = .ok (.imul, 1) := by decide +kernel
theorem dX0_lay_189 : decode cX0_lay 189 = .ok (.ishl, 1) := by decide +kernel
theorem dX0_lay_190 : decode cX0_lay 190 = .ok (.ior, 1) := by decide +kernel
theorem dX0_lay_191 : decode cX0_lay 191 = .ok (.iload 14, 2) := by decide +kernel
theorem dX0_lay_193 : decode cX0_lay 193 = .ok (.iload 5, 2) := by decide +kernel
theorem dX0_lay_195 : decode cX0_lay 195 = .ok (.iconst 1, 1) := by decide +kernel
theorem dX0_lay_196 : decode cX0_lay 196 = .ok (.iload 12, 2) := by decide +kernel
theorem dX0_lay_198 : decode cX0_lay 198 = .ok (.ishl, 1) := by decide +kernel
theorem dX0_lay_199 : decode cX0_lay 199 = .ok (.ior, 1) := by decide +kernel
theorem dX0_lay_200 : decode cX0_lay 200 = .ok (.iload 15, 2) := by decide +kernel
theorem dX0_lay_202 : decode cX0_lay 202 = .ok (.iload 16, 2) := by decide +kernel
theorem dX0_lay_204 : decode cX0_lay 204 = .ok (.invokevirtual 55, 3) := by decide +kernel
theorem dX0_lay_207 : decode cX0_lay 207 = .ok (.iinc 12 1, 3) := by decide +kernel
theorem dX0_lay_210 : decode cX0_lay 210 = .ok (.goto (-140), 3) := by decide +kernel
theorem dX0_lay_213 : decode cX0_lay 213 = .ok (.return_, 1) := by decide +kernel
noncomputable def fX0_lay_14 (rc : Nat → (Nat → Int64) → Int32 → Int32 → Int32 → Int32 → (Nat → Int32) → Int32 → Int32 → Int32 → Int32 → Int32 → Int32 → Option ((Nat → Int64) × Int32))  (t_rows_n : Nat) (t_rows : Nat → Int64) (t_size : Int32) (t_plies : Int32) (p1_cells : Nat → Int32) (v3 : Int32) (v6 : Int32) (v7 : Int32) : Option ((Nat → Int64) × Int32) := (fX0_shapeOf t_plies p1_cells v3 v6 v7).bind fun r4 => ob2 (fX0_store t_rows_n t_rows t_size v3 r4) fun w7 w8 => some (w7, w8)
noncomputable def fX0_lay_207 (rc : Nat → (Nat → Int64) → Int32 → Int32 → Int32 → Int32 → (Nat → Int32) → Int32 → Int32 → Int32 → Int32 → Int32 → Int32 → Option ((Nat → Int64) × Int32)) (k70 : Nat → (Nat → Int64) → Int32 → Int32 → Int32 → Int32 → (Nat → Int32) → Int32 → Int32 → Int32 → Int32 → Int32 → Int32 → Int32 → Int32 → Int32 → Int32 → Int32 → Option ((Nat → Int64) × Int32)) (t_rows_n : Nat) (t_rows : Nat → Int64) (t_size : Int32) (t_pool : Int32) (t_plies : Int32) (t_room : Int32) (p1_cells : Nat → Int32) (v2 : Int32) (v3 : Int32) (v4 : Int32) (v5 : Int32) (v6 : Int32) (v7 : Int32) (v8 : Int32) (v9 : Int32) (v10 : Int32) (v11 : Int32) (v12 : Int32) : Option ((Nat → Int64) × Int32) := k70 t_rows_n t_rows t_size t_pool t_plies t_room p1_cells v2 v3 v4 v5 v6 v7 v8 v9 v10 v11 (v12 + 1)
noncomputable def fX0_lay_123 (rc : Nat → (Nat → Int64) → Int32 → Int32 → Int32 → Int32 → (Nat → Int32) → Int32 → Int32 → Int32 → Int32 → Int32 → Int32 → Option ((Nat → Int64) × Int32)) (k70 : Nat → (Nat → Int64) → Int32 → Int32 → Int32 → Int32 → (Nat → Int32) → Int32 → Int32 → Int32 → Int32 → Int32 → Int32 → Int32 → Int32 → Int32 → Int32 → Int32 → Option ((Nat → Int64) × Int32)) (t_rows_n : Nat) (t_rows : Nat → Int64) (t_size : Int32) (t_pool : Int32) (t_plies : Int32) (t_room : Int32) (p1_cells : Nat → Int32) (v2 : Int32) (v3 : Int32) (v4 : Int32) (v5 : Int32) (v6 : Int32) (v7 : Int32) (v8 : Int32) (v9 : Int32) (v10 : Int32) (v11 : Int32) (v12 : Int32) (v13 : Int32) (z0 : Int32) : Option ((Nat → Int64) × Int32) := (if v13 = v11 then fX0_lay_207 rc k70 t_rows_n t_rows t_size t_pool t_plies t_room p1_cells v2 v3 v4 v5 v6 v7 v8 v9 v10 v11 v12 else (if z0 ≤ t_room then (fX1_cellAt p1_cells v13 0).bind fun r15 => (fX1_cellAt p1_cells v13 2).bind fun r17 => ob2 (rc t_rows_n t_rows t_size t_pool t_plies t_room p1_cells (v2 + 1) (v3 ||| (v13 <<< ((4 * v2) &&& 31))) z0 (v5 ||| (1 <<< (v12 &&& 31))) (v6 + (v9 * r15)) (v7 + (v10 * r17))) fun w20 w21 => fX0_lay_207 rc k70 t_rows_n w20 w21 t_pool t_plies t_room p1_cells v2 v3 v4 v5 v6 v7 v8 v9 v10 v13 v12 else fX0_lay_207 rc k70 t_rows_n t_rows t_size t_pool t_plies t_room p1_cells v2 v3 v4 v5 v6 v7 v8 v9 v10 v11 v12))
noncomputable def fX0_lay_70 (rc : Nat → (Nat → Int64) → Int32 → Int32 → Int32 → Int32 → (Nat → Int32) → Int32 → Int32 → Int32 → Int32 → Int32 → Int32 → Option ((Nat → Int64) × Int32))  : Nat → Nat → (Nat → Int64) → Int32 → Int32 → Int32 → Int32 → (Nat → Int32) → Int32 → Int32 → Int32 → Int32 → Int32 → Int32 → Int32 → Int32 → Int32 → Int32 → Int32 → Option ((Nat → Int64) × Int32)
  | 0, _, _, _, _, _, _, _, _, _, _, _, _, _, _, _, _, _, _ => none
  | n + 1, t_rows_n, t_rows, t_size, t_pool, t_plies, t_room, p1_cells, v2, v3, v4, v5, v6, v7, v8, v9, v10, v11, v12 => (if t_plies ≤ v12 then some (t_rows, t_size) else (if ((v5 >>> (v12 &&& 31)) &&& 1) = 0 then (if (((iushr t_pool (4 * v12)) &&& 15) &&& 3) = v8 then fX0_lay_123 rc (fX0_lay_70 rc n) t_rows_n t_rows t_size t_pool t_plies t_room p1_cells v2 v3 v4 v5 v6 v7 v8 v9 v10 v11 v12 ((iushr t_pool (4 * v12)) &&& 15) (v4 + 1) else fX0_lay_123 rc (fX0_lay_70 rc n) t_rows_n t_rows t_size t_pool t_plies t_room p1_cells v2 v3 v4 v5 v6 v7 v8 v9 v10 v11 v12 ((iushr t_pool (4 * v12)) &&& 15) 1) else fX0_lay_207 rc (fX0_lay_70 rc n) t_rows_n t_rows t_size t_pool t_plies t_room p1_cells v2 v3 v4 v5 v6 v7 v8 v9 v10 v11 v12))
theorem fX0_lay_70_z (rc : Nat → (Nat → Int64) → Int32 → Int32 → Int32 → Int32 → (Nat → Int32) → Int32 → Int32 → Int32 → Int32 → Int32 → Int32 → Option ((Nat → Int64) × Int32))  (t_rows_n : Nat) (t_rows : Nat → Int64) (t_size : Int32) (t_pool : Int32) (t_plies : Int32) (t_room : Int32) (p1_cells : Nat → Int32) (v2 : Int32) (v3 : Int32) (v4 : Int32) (v5 : Int32) (v6 : Int32) (v7 : Int32) (v8 : Int32) (v9 : Int32) (v10 : Int32) (v11 : Int32) (v12 : Int32) : fX0_lay_70 rc  0 t_rows_n t_rows t_size t_pool t_plies t_room p1_cells v2 v3 v4 v5 v6 v7 v8 v9 v10 v11 v12 = none := rfl
theorem fX0_lay_70_s (rc : Nat → (Nat → Int64) → Int32 → Int32 → Int32 → Int32 → (Nat → Int32) → Int32 → Int32 → Int32 → Int32 → Int32 → Int32 → Option ((Nat → Int64) × Int32))  (n : Nat) (t_rows_n : Nat) (t_rows : Nat → Int64) (t_size : Int32) (t_pool : Int32) (t_plies : Int32) (t_room : Int32) (p1_cells : Nat → Int32) (v2 : Int32) (v3 : Int32) (v4 : Int32) (v5 : Int32) (v6 : Int32) (v7 : Int32) (v8 : Int32) (v9 : Int32) (v10 : Int32) (v11 : Int32) (v12 : Int32) : fX0_lay_70 rc  (n + 1) t_rows_n t_rows t_size t_pool t_plies t_room p1_cells v2 v3 v4 v5 v6 v7 v8 v9 v10 v11 v12 = (if t_plies ≤ v12 then some (t_rows, t_size) else (if ((v5 >>> (v12 &&& 31)) &&& 1) = 0 then (if (((iushr t_pool (4 * v12)) &&& 15) &&& 3) = v8 then fX0_lay_123 rc (fX0_lay_70 rc n) t_rows_n t_rows t_size t_pool t_plies t_room p1_cells v2 v3 v4 v5 v6 v7 v8 v9 v10 v11 v12 ((iushr t_pool (4 * v12)) &&& 15) (v4 + 1) else fX0_lay_123 rc (fX0_lay_70 rc n) t_rows_n t_rows t_size t_pool t_plies t_room p1_cells v2 v3 v4 v5 v6 v7 v8 v9 v10 v11 v12 ((iushr t_pool (4 * v12)) &&& 15) 1) else fX0_lay_207 rc (fX0_lay_70 rc n) t_rows_n t_rows t_size t_pool t_plies t_room p1_cells v2 v3 v4 v5 v6 v7 v8 v9 v10 v11 v12)) := rfl
noncomputable def fX0_lay_45 (rc : Nat → (Nat → Int64) → Int32 → Int32 → Int32 → Int32 → (Nat → Int32) → Int32 → Int32 → Int32 → Int32 → Int32 → Int32 → Option ((Nat → Int64) × Int32))  (t_rows_n : Nat) (t_rows : Nat → Int64) (t_size : Int32) (t_pool : Int32) (t_plies : Int32) (t_room : Int32) (p1_cells : Nat → Int32) (v2 : Int32) (v3 : Int32) (v4 : Int32) (v5 : Int32) (v6 : Int32) (v7 : Int32) (z0 : Int32) : Option ((Nat → Int64) × Int32) := fX0_lay_70 rc FU t_rows_n t_rows t_size t_pool t_plies t_room p1_cells v2 v3 v4 v5 v6 v7 z0 (fX3_farOf v2 t_plies) (fX3_thickOf (fX3_farOf v2 t_plies)) (-1) 0
noncomputable def fX0_lay_e (rc : Nat → (Nat → Int64) → Int32 → Int32 → Int32 → Int32 → (Nat → Int32) → Int32 → Int32 → Int32 → Int32 → Int32 → Int32 → Option ((Nat → Int64) × Int32))  (t_rows_n : Nat) (t_rows : Nat → Int64) (t_size : Int32) (t_pool : Int32) (t_plies : Int32) (t_room : Int32) (p1_cells : Nat → Int32) (v2 : Int32) (v3 : Int32) (v4 : Int32) (v5 : Int32) (v6 : Int32) (v7 : Int32) : Option ((Nat → Int64) × Int32) := (if t_plies ≤ v2 then fX0_lay_14 rc t_rows_n t_rows t_size t_plies p1_cells v3 v6 v7 else (if v2 < 8 then (if v2 ≤ 0 then fX0_lay_45 rc t_rows_n t_rows t_size t_pool t_plies t_room p1_cells v2 v3 v4 v5 v6 v7 (-1) else fX0_lay_45 rc t_rows_n t_rows t_size t_pool t_plies t_room p1_cells v2 v3 v4 v5 v6 v7 (fX3_angleAt v3 (v2 - 1))) else fX0_lay_14 rc t_rows_n t_rows t_size t_plies p1_cells v3 v6 v7))
noncomputable def fX0_lay : Nat → Nat → (Nat → Int64) → Int32 → Int32 → Int32 → Int32 → (Nat → Int32) → Int32 → Int32 → Int32 → Int32 → Int32 → Int32 → Option ((Nat → Int64) × Int32)
  | 0, _, _, _, _, _, _, _, _, _, _, _, _, _ => none
  | d + 1, t_rows_n, t_rows, t_size, t_pool, t_plies, t_room, p1_cells, v2, v3, v4, v5, v6, v7 => fX0_lay_e (fX0_lay d) t_rows_n t_rows t_size t_pool t_plies t_room p1_cells v2 v3 v4 v5 v6 v7
theorem fX0_lay_z (t_rows_n : Nat) (t_rows : Nat → Int64) (t_size : Int32) (t_pool : Int32) (t_plies : Int32) (t_room : Int32) (p1_cells : Nat → Int32) (v2 : Int32) (v3 : Int32) (v4 : Int32) (v5 : Int32) (v6 : Int32) (v7 : Int32) : fX0_lay 0 t_rows_n t_rows t_size t_pool t_plies t_room p1_cells v2 v3 v4 v5 v6 v7 = none := rfl
theorem fX0_lay_s (d : Nat) (t_rows_n : Nat) (t_rows : Nat → Int64) (t_size : Int32) (t_pool : Int32) (t_plies : Int32) (t_room : Int32) (p1_cells : Nat → Int32) (v2 : Int32) (v3 : Int32) (v4 : Int32) (v5 : Int32) (v6 : Int32) (v7 : Int32) : fX0_lay (d + 1) t_rows_n t_rows t_size t_pool t_plies t_room p1_cells v2 v3 v4 v5 v6 v7 = fX0_lay_e (fX0_lay d) t_rows_n t_rows t_size t_pool t_plies t_room p1_cells v2 v3 v4 v5 v6 v7 := rfl
set_option maxHeartbeats 4000000 in
set_option maxRecDepth 100000 in
theorem ctX0_lay (l : Launch) (g : GT) : ∀ (d : Nat) (sz : Nat) (a_t : Nat → Nat) (b_t_rows : Nat) (b_t_seen : Nat) (a_p1 : Nat → Nat) (t_size : Int32) (t_ready : Int32) (t_pool : Int32) (t_plies : Int32) (t_room : Int32) (t_rows_n : Nat) (t_rows : Nat → Int64) (p1_told : Int32) (p1_lines : Int32) (p1_kinds : Int32) (p1_acts : Int32) (p1_cells : Nat → Int32) (v2 : Int32) (v3 : Int32) (v4 : Int32) (v5 : Int32) (v6 : Int32) (v7 : Int32) (o_t_rows : Nat → Int64) (o_t_size : Int32) (h : fX0_lay d t_rows_n t_rows t_size t_pool t_plies t_room p1_cells v2 v3 v4 v5 v6 v7 = some (o_t_rows, o_t_size)), Met l yX0_lay (Cond.code yX0_lay cX0_lay 17 none :: Tw) ⟨4 + d, 0, 0, 101 + d * 36⟩ (va_Pc [.ref ((a_t 0)), .ref ((a_p1 0)), .int v2, .int v3, .int v4, .int v5, .int v6, .int v7] (rwB g [((a_t 0), .inr (0, [.ref b_t_rows, .ref b_t_seen, .int t_size, .int t_ready, .int t_pool, .int t_plies, .int t_room])), (b_t_rows, .inl (g.2.2.1 1, t_rows_n, .inr (.inl t_rows))), ((a_p1 0), .inr (1, [.ref (a_p1 1), .ref (a_p1 2), .ref (a_p1 3), .ref (a_p1 4), .ref (a_p1 5), .int p1_told, .int p1_lines, .int p1_kinds, .int p1_acts])), ((a_p1 2), .inl (g.2.2.1 0, 144, .inl p1_cells))] sz)) (va_Qv (fun (_ : Nat → Nat) => True) (fun u => rwE g (va_A [((a_t 0), .inr (0, [.ref b_t_rows, .ref b_t_seen, .int t_size, .int t_ready, .int t_pool, .int t_plies, .int t_room])), (b_t_rows, .inl (g.2.2.1 1, t_rows_n, .inr (.inl t_rows))), ((a_p1 0), .inr (1, [.ref (a_p1 1), .ref (a_p1 2), .ref (a_p1 3), .ref (a_p1 4), .ref (a_p1 5), .int p1_told, .int p1_lines, .int p1_kinds, .int p1_acts])), ((a_p1 2), .inl (g.2.2.1 0, 144, .inl p1_cells))] sz) [((a_t 0), .inr (0, [.ref b_t_rows, .ref b_t_seen, .int o_t_size, .int t_ready, .int t_pool, .int t_plies, .int t_room])), (b_t_rows, .inl (g.2.2.1 1, t_rows_n, .inr (.inl o_t_rows))), ((a_p1 0), .inr (1, [.ref (a_p1 1), .ref (a_p1 2), .ref (a_p1 3), .ref (a_p1 4), .ref (a_p1 5), .int p1_told, .int p1_lines, .int p1_kinds, .int p1_acts])), ((a_p1 2), .inl (g.2.2.1 0, 144, .inl p1_cells))]) (va_A [((a_t 0), .inr (0, [.ref b_t_rows, .ref b_t_seen, .int t_size, .int t_ready, .int t_pool, .int t_plies, .int t_room])), (b_t_rows, .inl (g.2.2.1 1, t_rows_n, .inr (.inl t_rows))), ((a_p1 0), .inr (1, [.ref (a_p1 1), .ref (a_p1 2), .ref (a_p1 3), .ref (a_p1 4), .ref (a_p1 5), .int p1_told, .int p1_lines, .int p1_kinds, .int p1_acts])), ((a_p1 2), .inl (g.2.2.1 0, 144, .inl p1_cells))] sz)) 0 0 (va_A [((a_t 0), .inr (0, [.ref b_t_rows, .ref b_t_seen, .int t_size, .int t_ready, .int t_pool, .int t_plies, .int t_room])), (b_t_rows, .inl (g.2.2.1 1, t_rows_n, .inr (.inl t_rows))), ((a_p1 0), .inr (1, [.ref (a_p1 1), .ref (a_p1 2), .ref (a_p1 3), .ref (a_p1 4), .ref (a_p1 5), .int p1_told, .int p1_lines, .int p1_kinds, .int p1_acts])), ((a_p1 2), .inl (g.2.2.1 0, 144, .inl p1_cells))] sz) := by
  intro d
  induction d with
  | zero => intro sz a_t b_t_rows b_t_seen a_p1 t_size t_ready t_pool t_plies t_room t_rows_n t_rows p1_told p1_lines p1_kinds p1_acts p1_cells v2 v3 v4 v5 v6 v7 o_t_rows o_t_size h; cases (fX0_lay_z t_rows_n t_rows t_size t_pool t_plies t_room p1_cells v2 v3 v4 v5 v6 v7).symm.trans h
  | succ d IH =>
  intro sz a_t b_t_rows b_t_seen a_p1 t_size t_ready t_pool t_plies t_room t_rows_n t_rows p1_told p1_lines p1_kinds p1_acts p1_cells v2 v3 v4 v5 v6 v7 o_t_rows o_t_size h
  have h := (fX0_lay_s d t_rows_n t_rows t_size t_pool t_plies t_room p1_cells v2 v3 v4 v5 v6 v7).symm.trans h
  obtain ⟨rc, hrc⟩ : ∃ rc, rc = fX0_lay d := ⟨_, rfl⟩
  rw [← hrc] at h IH
  refine rw_metv (by decide) (Nat.le_of_ble_eq_true rfl) (lv0 := [(0, .ref ((a_t 0))), (1, .ref ((a_p1 0))), (2, .int v2), (3, .int v3), (4, .int v4), (5, .int v5), (6, .int v6), (7, .int v7)]) rfl ?_
  intro p e s m args below meth c ls Q A cx hret hG hAb hb0 hA hP hD hl
  have hx := cx.1
  have hb := cx.2.1
  have hG0 := hG
  have hGk : ∀ {H : Heap} {locs : List Loc}, va_S A s.heap H locs → GE g s H := fun hS => hG0.keptS hAb hS
  have hSb : ∀ {H : Heap} {locs : List Loc}, va_S A s.heap H locs → va_S (fun a => g.1 ≤ a) s.heap H locs := fun hS => ⟨hS.1, fun q h1 h2 => hS.2.1 q h1 (fun z => h2 (hAb q z)), fun l hl => hAb _ (hS.2.2 l hl)⟩
  have hS : va_S A s.heap s.heap [] := va_S.rf
  have w14 : ∀ (t_rows : Nat → Int64) (t_size : Int32) (v3 : Int32) (v6 : Int32) (v7 : Int32) (H : Heap) (locs : List Loc), va_P g.2.1 vwCl [((a_t 0), .inr (0, [.ref b_t_rows, .ref b_t_seen, .int t_size, .int t_ready, .int t_pool, .int t_plies, .int t_room])), (b_t_rows, .inl (g.2.2.1 1, t_rows_n, .inr (.inl t_rows))), ((a_p1 0), .inr (1, [.ref (a_p1 1), .ref (a_p1 2), .ref (a_p1 3), .ref (a_p1 4), .ref (a_p1 5), .int p1_told, .int p1_lines, .int p1_kinds, .int p1_acts])), ((a_p1 2), .inl (g.2.2.1 0, 144, .inl p1_cells))] H → va_D A [((a_t 0), .inr (0, [.ref b_t_rows, .ref b_t_seen, .int t_size, .int t_ready, .int t_pool, .int t_plies, .int t_room])), (b_t_rows, .inl (g.2.2.1 1, t_rows_n, .inr (.inl t_rows))), ((a_p1 0), .inr (1, [.ref (a_p1 1), .ref (a_p1 2), .ref (a_p1 3), .ref (a_p1 4), .ref (a_p1 5), .int p1_told, .int p1_lines, .int p1_kinds, .int p1_acts])), ((a_p1 2), .inl (g.2.2.1 0, 144, .inl p1_cells))] → va_S A s.heap H locs → ∀ (ls : Array Slot), lv_has ls 17 [(0, .ref ((a_t 0))), (1, .ref ((a_p1 0))), (3, .int v3), (6, .int v6), (7, .int v7)] → fX0_lay_14 rc  t_rows_n t_rows t_size t_plies p1_cells v3 v6 v7 = some (o_t_rows, o_t_size) → W p l e ⟨4 + (d + 1), 0, 0, 101 + (d + 1) * 36⟩ s m args below meth c H locs 0 0 Q (F0 m 14 ls []) := by
    intro t_rows t_size v3 v6 v7 H locs hP hD hS ls hl h
    unfold fX0_lay_14 at h
    have hG := hGk hS
    refine lv_aload_n hx hb dX0_lay_14 rfl (lv_at hl 0 rfl) ?_
    refine lv_iload_n hx hb dX0_lay_15 rfl (lv_at hl 2 rfl) ?_
    refine lv_aload_n hx hb dX0_lay_16 rfl (lv_at hl 0 rfl) ?_
    refine lv_aload_n hx hb dX0_lay_17 rfl (lv_at hl 1 rfl) ?_
    refine lv_iload_n hx hb dX0_lay_18 rfl (lv_at hl 2 rfl) ?_
    refine lv_iload hx hb dX0_lay_19 (lv_at hl 3 rfl) ?_
    refine lv_iload hx hb dX0_lay_21 (lv_at hl 4 rfl) ?_
    obtain ⟨r4, hr5, h⟩ := bnd h
    refine ro_i (runV (As := [.ref ((a_p1 0)), .int v3, .int v6, .int v7]) (rest := [.int v3, .ref ((a_t 0))]) cx hl.1 (ctX0_shapeOf l g a_t b_t_rows b_t_seen a_p1 t_size t_ready t_pool t_plies t_room p1_told p1_lines p1_kinds p1_acts p1_cells v3 v6 v7 r4 hr5) kmX0_shapeOf kvX0_shapeOf lm_X0_62 ⟨rfl, rfl⟩ (roomOk_mk (by omega) (by omega)) (roV (q0 := 0) (ci := 0) hG (hP.sub [0, 2, 3] rfl) hP rfl rfl) rfl rfl (Nat.le_of_ble_eq_true rfl) dX0_lay_23 ⟨Nat.le_of_ble_eq_true rfl, Nat.le_of_ble_eq_true rfl⟩) ?_
    obtain ⟨w7, w8, hr6, h⟩ := ob2_out h
    refine rw_v (WN := fun u9 => [((a_p1 0), .inr (1, [.ref (a_p1 1), .ref (a_p1 2), .ref (a_p1 3), .ref (a_p1 4), .ref (a_p1 5), .int p1_told, .int p1_lines, .int p1_kinds, .int p1_acts])), ((a_p1 2), .inl (g.2.2.1 0, 144, .inl p1_cells)), ((a_t 0), .inr (0, [.ref b_t_rows, .ref b_t_seen, .int w8, .int t_ready, .int t_pool, .int t_plies, .int t_room])), (b_t_rows, .inl (g.2.2.1 1, t_rows_n, .inr (.inl w7)))]) (wr := [((a_p1 0), .inr (1, [.ref (a_p1 1), .ref (a_p1 2), .ref (a_p1 3), .ref (a_p1 4), .ref (a_p1 5), .int p1_told, .int p1_lines, .int p1_kinds, .int p1_acts])), ((a_p1 2), .inl (g.2.2.1 0, 144, .inl p1_cells))]) (runV (As := [.int v3, .int r4]) (rest := []) cx hl.1 (ctX0_store l g H.size a_t b_t_rows b_t_seen t_size t_ready t_pool t_plies t_room t_rows_n t_rows v3 r4 w7 w8 hr6) kmX0_store kvX0_store lm_X0_66 ⟨rfl, rfl⟩ (roomOk_mk (by omega) (by omega)) (rwV (q0 := 0) (ci := 0) hG (hP.sub [0, 1] rfl) (hD.sub [0, 1] (by decide) rfl) hAb hb0 hS hP rfl rfl) rfl rfl (Nat.le_of_ble_eq_true rfl) dX0_lay_26 ⟨Nat.le_of_ble_eq_true rfl, Nat.le_of_ble_eq_true rfl⟩) hP hD hS hA [0, 1] [2, 3] rfl rfl (by decide) (by decide) (fun _ => rfl) (fun u9 H locs hP hD hS => ?_)
    have hG := hGk hS
    cases h
    exact hret (fun _ => 0) _ _ _ _ dX0_lay_29 (hP.sub [2, 3, 0, 1] rfl) (hD.sub [2, 3, 0, 1] (by decide) rfl) hS
  have w207 : ∀ (k70 : Nat → (Nat → Int64) → Int32 → Int32 → Int32 → Int32 → (Nat → Int32) → Int32 → Int32 → Int32 → Int32 → Int32 → Int32 → Int32 → Int32 → Int32 → Int32 → Int32 → Option ((Nat → Int64) × Int32)) (hk70 : ∀ (t_rows : Nat → Int64) (t_size : Int32) (v2 : Int32) (v3 : Int32) (v4 : Int32) (v5 : Int32) (v6 : Int32) (v7 : Int32) (v8 : Int32) (v9 : Int32) (v10 : Int32) (v11 : Int32) (v12 : Int32) (H : Heap) (locs : List Loc), va_P g.2.1 vwCl [((a_t 0), .inr (0, [.ref b_t_rows, .ref b_t_seen, .int t_size, .int t_ready, .int t_pool, .int t_plies, .int t_room])), (b_t_rows, .inl (g.2.2.1 1, t_rows_n, .inr (.inl t_rows))), ((a_p1 0), .inr (1, [.ref (a_p1 1), .ref (a_p1 2), .ref (a_p1 3), .ref (a_p1 4), .ref (a_p1 5), .int p1_told, .int p1_lines, .int p1_kinds, .int p1_acts])), ((a_p1 2), .inl (g.2.2.1 0, 144, .inl p1_cells))] H → va_D A [((a_t 0), .inr (0, [.ref b_t_rows, .ref b_t_seen, .int t_size, .int t_ready, .int t_pool, .int t_plies, .int t_room])), (b_t_rows, .inl (g.2.2.1 1, t_rows_n, .inr (.inl t_rows))), ((a_p1 0), .inr (1, [.ref (a_p1 1), .ref (a_p1 2), .ref (a_p1 3), .ref (a_p1 4), .ref (a_p1 5), .int p1_told, .int p1_lines, .int p1_kinds, .int p1_acts])), ((a_p1 2), .inl (g.2.2.1 0, 144, .inl p1_cells))] → va_S A s.heap H locs → ∀ (ls : Array Slot), lv_has ls 17 [(0, .ref ((a_t 0))), (1, .ref ((a_p1 0))), (2, .int v2), (3, .int v3), (4, .int v4), (5, .int v5), (6, .int v6), (7, .int v7), (8, .int v8), (9, .int v9), (10, .int v10), (11, .int v11), (12, .int v12)] → k70 t_rows_n t_rows t_size t_pool t_plies t_room p1_cells v2 v3 v4 v5 v6 v7 v8 v9 v10 v11 v12 = some (o_t_rows, o_t_size) → W p l e ⟨4 + (d + 1), 0, 0, 101 + (d + 1) * 36⟩ s m args below meth c H locs 0 0 Q (F0 m 70 ls [])) (t_rows : Nat → Int64) (t_size : Int32) (v2 : Int32) (v3 : Int32) (v4 : Int32) (v5 : Int32) (v6 : Int32) (v7 : Int32) (v8 : Int32) (v9 : Int32) (v10 : Int32) (v11 : Int32) (v12 : Int32) (H : Heap) (locs : List Loc), va_P g.2.1 vwCl [((a_t 0), .inr (0, [.ref b_t_rows, .ref b_t_seen, .int t_size, .int t_ready, .int t_pool, .int t_plies, .int t_room])), (b_t_rows, .inl (g.2.2.1 1, t_rows_n, .inr (.inl t_rows))), ((a_p1 0), .inr (1, [.ref (a_p1 1), .ref (a_p1 2), .ref (a_p1 3), .ref (a_p1 4), .ref (a_p1 5), .int p1_told, .int p1_lines, .int p1_kinds, .int p1_acts])), ((a_p1 2), .inl (g.2.2.1 0, 144, .inl p1_cells))] H → va_D A [((a_t 0), .inr (0, [.ref b_t_rows, .ref b_t_seen, .int t_size, .int t_ready, .int t_pool, .int t_plies, .int t_room])), (b_t_rows, .inl (g.2.2.1 1, t_rows_n, .inr (.inl t_rows))), ((a_p1 0), .inr (1, [.ref (a_p1 1), .ref (a_p1 2), .ref (a_p1 3), .ref (a_p1 4), .ref (a_p1 5), .int p1_told, .int p1_lines, .int p1_kinds, .int p1_acts])), ((a_p1 2), .inl (g.2.2.1 0, 144, .inl p1_cells))] → va_S A s.heap H locs → ∀ (ls : Array Slot), lv_has ls 17 [(0, .ref ((a_t 0))), (1, .ref ((a_p1 0))), (2, .int v2), (3, .int v3), (4, .int v4), (5, .int v5), (6, .int v6), (7, .int v7), (8, .int v8), (9, .int v9), (10, .int v10), (11, .int v11), (12, .int v12)] → fX0_lay_207 rc k70 t_rows_n t_rows t_size t_pool t_plies t_room p1_cells v2 v3 v4 v5 v6 v7 v8 v9 v10 v11 v12 = some (o_t_rows, o_t_size) → W p l e ⟨4 + (d + 1), 0, 0, 101 + (d + 1) * 36⟩ s m args below meth c H locs 0 0 Q (F0 m 207 ls []) := by
    intro k70 hk70 t_rows t_size v2 v3 v4 v5 v6 v7 v8 v9 v10 v11 v12 H locs hP hD hS ls hl h
    unfold fX0_lay_207 at h
    have hG := hGk hS
    refine lv_iinc (v := v12 + 1) (lv' := [(12, .int (v12 + 1)), (0, .ref ((a_t 0))), (1, .ref ((a_p1 0))), (2, .int v2), (3, .int v3), (4, .int v4), (5, .int v5), (6, .int v6), (7, .int v7), (8, .int v8), (9, .int v9), (10, .int v10), (11, .int v11)]) hx hb dX0_lay_207 hl (k := 12) rfl rfl (by decide) rfl (fun ls hl => ?_)
    refine lv_goto (tgt := 70) hx hb dX0_lay_210 (by decide) ?_
    exact hk70 t_rows t_size v2 v3 v4 v5 v6 v7 v8 v9 v10 v11 (v12 + 1) _ _ hP hD hS _ (lv_sub hl [1, 2, 3, 4, 5, 6, 7, 8, 9, 10, 11, 12, 0] rfl) h
  have w123 : ∀ (k70 : Nat → (Nat → Int64) → Int32 → Int32 → Int32 → Int32 → (Nat → Int32) → Int32 → Int32 → Int32 → Int32 → Int32 → Int32 → Int32 → Int32 → Int32 → Int32 → Int32 → Option ((Nat → Int64) × Int32)) (hk70 : ∀ (t_rows : Nat → Int64) (t_size : Int32) (v2 : Int32) (v3 : Int32) (v4 : Int32) (v5 : Int32) (v6 : Int32) (v7 : Int32) (v8 : Int32) (v9 : Int32) (v10 : Int32) (v11 : Int32) (v12 : Int32) (H : Heap) (locs : List Loc), va_P g.2.1 vwCl [((a_t 0), .inr (0, [.ref b_t_rows, .ref b_t_seen, .int t_size, .int t_ready, .int t_pool, .int t_plies, .int t_room])), (b_t_rows, .inl (g.2.2.1 1, t_rows_n, .inr (.inl t_rows))), ((a_p1 0), .inr (1, [.ref (a_p1 1), .ref (a_p1 2), .ref (a_p1 3), .ref (a_p1 4), .ref (a_p1 5), .int p1_told, .int p1_lines, .int p1_kinds, .int p1_acts])), ((a_p1 2), .inl (g.2.2.1 0, 144, .inl p1_cells))] H → va_D A [((a_t 0), .inr (0, [.ref b_t_rows, .ref b_t_seen, .int t_size, .int t_ready, .int t_pool, .int t_plies, .int t_room])), (b_t_rows, .inl (g.2.2.1 1, t_rows_n, .inr (.inl t_rows))), ((a_p1 0), .inr (1, [.ref (a_p1 1), .ref (a_p1 2), .ref (a_p1 3), .ref (a_p1 4), .ref (a_p1 5), .int p1_told, .int p1_lines, .int p1_kinds, .int p1_acts])), ((a_p1 2), .inl (g.2.2.1 0, 144, .inl p1_cells))] → va_S A s.heap H locs → ∀ (ls : Array Slot), lv_has ls 17 [(0, .ref ((a_t 0))), (1, .ref ((a_p1 0))), (2, .int v2), (3, .int v3), (4, .int v4), (5, .int v5), (6, .int v6), (7, .int v7), (8, .int v8), (9, .int v9), (10, .int v10), (11, .int v11), (12, .int v12)] → k70 t_rows_n t_rows t_size t_pool t_plies t_room p1_cells v2 v3 v4 v5 v6 v7 v8 v9 v10 v11 v12 = some (o_t_rows, o_t_size) → W p l e ⟨4 + (d + 1), 0, 0, 101 + (d + 1) * 36⟩ s m args below meth c H locs 0 0 Q (F0 m 70 ls [])) (t_rows : Nat → Int64) (t_size : Int32) (v2 : Int32) (v3 : Int32) (v4 : Int32) (v5 : Int32) (v6 : Int32) (v7 : Int32) (v8 : Int32) (v9 : Int32) (v10 : Int32) (v11 : Int32) (v12 : Int32) (v13 : Int32) (z0 : Int32) (H : Heap) (locs : List Loc), va_P g.2.1 vwCl [((a_t 0), .inr (0, [.ref b_t_rows, .ref b_t_seen, .int t_size, .int t_ready, .int t_pool, .int t_plies, .int t_room])), (b_t_rows, .inl (g.2.2.1 1, t_rows_n, .inr (.inl t_rows))), ((a_p1 0), .inr (1, [.ref (a_p1 1), .ref (a_p1 2), .ref (a_p1 3), .ref (a_p1 4), .ref (a_p1 5), .int p1_told, .int p1_lines, .int p1_kinds, .int p1_acts])), ((a_p1 2), .inl (g.2.2.1 0, 144, .inl p1_cells))] H → va_D A [((a_t 0), .inr (0, [.ref b_t_rows, .ref b_t_seen, .int t_size, .int t_ready, .int t_pool, .int t_plies, .int t_room])), (b_t_rows, .inl (g.2.2.1 1, t_rows_n, .inr (.inl t_rows))), ((a_p1 0), .inr (1, [.ref (a_p1 1), .ref (a_p1 2), .ref (a_p1 3), .ref (a_p1 4), .ref (a_p1 5), .int p1_told, .int p1_lines, .int p1_kinds, .int p1_acts])), ((a_p1 2), .inl (g.2.2.1 0, 144, .inl p1_cells))] → va_S A s.heap H locs → ∀ (ls : Array Slot), lv_has ls 17 [(0, .ref ((a_t 0))), (1, .ref ((a_p1 0))), (2, .int v2), (3, .int v3), (4, .int v4), (5, .int v5), (6, .int v6), (7, .int v7), (8, .int v8), (9, .int v9), (10, .int v10), (11, .int v11), (12, .int v12), (13, .int v13)] → fX0_lay_123 rc k70 t_rows_n t_rows t_size t_pool t_plies t_room p1_cells v2 v3 v4 v5 v6 v7 v8 v9 v10 v11 v12 v13 z0 = some (o_t_rows, o_t_size) → W p l e ⟨4 + (d + 1), 0, 0, 101 + (d + 1) * 36⟩ s m args below meth c H locs 0 0 Q (F0 m 123 ls [.int z0]) := by
    intro k70 hk70 t_rows t_size v2 v3 v4 v5 v6 v7 v8 v9 v10 v11 v12 v13 z0 H locs hP hD hS ls hl h
    unfold fX0_lay_123 at h
    have hG := hGk hS
    refine lv_istore (lv' := [(14, .int z0), (0, .ref ((a_t 0))), (1, .ref ((a_p1 0))), (2, .int v2), (3, .int v3), (4, .int v4), (5, .int v5), (6, .int v6), (7, .int v7), (8, .int v8), (9, .int v9), (10, .int v10), (11, .int v11), (12, .int v12), (13, .int v13)]) hx hb dX0_lay_123 hl (by decide) rfl (fun ls hl => ?_)
    refine lv_iload hx hb dX0_lay_125 (lv_at hl 14 rfl) ?_
    refine lv_iload hx hb dX0_lay_127 (lv_at hl 12 rfl) ?_
    refine lv_icmp_eq (tgt := 207) hx hb dX0_lay_129 (by decide) (fun c13 => ?_) (fun c13 => ?_)
    · have h := itp c13 h
      exact w207 _ hk70 t_rows t_size v2 v3 v4 v5 v6 v7 v8 v9 v10 v11 v12 _ _ hP hD hS _ (lv_sub hl [1, 2, 3, 4, 5, 6, 7, 8, 9, 10, 11, 12, 13] rfl) h
    · have h := itn c13 h
      refine lv_iload hx hb dX0_lay_132 (lv_at hl 0 rfl) ?_
      refine lv_aload_n hx hb dX0_lay_134 rfl (lv_at hl 1 rfl) ?_
      refine xa_get (C := RX0) (T := TX0) (N := 7) cx hG hP 0 rfl rfl uX0 6 (by decide) lf_X0_43 rfl dX0_lay_135 ?_
      refine lv_icmp_le (tgt := 144) hx hb dX0_lay_138 (by decide) (fun c14 => ?_) (fun c14 => ?_)
      · have h := itp c14 h
        refine lv_iload hx hb dX0_lay_144 (lv_at hl 14 rfl) ?_
        refine lv_istore (lv' := [(11, .int v13), (14, .int z0), (0, .ref ((a_t 0))), (1, .ref ((a_p1 0))), (2, .int v2), (3, .int v3), (4, .int v4), (5, .int v5), (6, .int v6), (7, .int v7), (8, .int v8), (9, .int v9), (10, .int v10), (12, .int v12), (13, .int v13)]) hx hb dX0_lay_146 hl (by decide) rfl (fun ls hl => ?_)
        refine lv_iload hx hb dX0_lay_148 (lv_at hl 8 rfl) ?_
        refine lv_iload hx hb dX0_lay_150 (lv_at hl 11 rfl) ?_
        refine lv_aload_n hx hb dX0_lay_152 rfl (lv_at hl 3 rfl) ?_
        refine lv_iload hx hb dX0_lay_153 (lv_at hl 14 rfl) ?_
        refine lv_iconst (v := 0) hx hb dX0_lay_155 (by decide) ?_
        obtain ⟨r15, hr16, h⟩ := bnd h
        refine ro_i (runVN (As := [.int v13, .int (0)]) (rest := [.int v9, .int v6]) hG cx hl.1 (ctX1_cellAt l g a_p1 p1_told p1_lines p1_kinds p1_acts p1_cells v13 (0) r15 hr16) kmX1_cellAt kvX1_cellAt nm_64 ⟨rfl, rfl⟩ (roomOk_mk (by omega) (by omega)) (roV (q0 := 2) (ci := 1) hG (hP.sub [2, 3] rfl) hP rfl rfl) rfl rfl (Nat.le_of_ble_eq_true rfl) dX0_lay_156 ⟨Nat.le_of_ble_eq_true rfl, Nat.le_of_ble_eq_true rfl⟩) ?_
        refine lv_imul hx hb dX0_lay_159 ?_
        refine lv_iadd hx hb dX0_lay_160 ?_
        refine lv_istore (lv' := [(15, .int (v6 + (v9 * r15))), (11, .int v13), (14, .int z0), (0, .ref ((a_t 0))), (1, .ref ((a_p1 0))), (2, .int v2), (3, .int v3), (4, .int v4), (5, .int v5), (6, .int v6), (7, .int v7), (8, .int v8), (9, .int v9), (10, .int v10), (12, .int v12), (13, .int v13)]) hx hb dX0_lay_161 hl (by decide) rfl (fun ls hl => ?_)
        refine lv_iload hx hb dX0_lay_163 (lv_at hl 10 rfl) ?_
        refine lv_iload hx hb dX0_lay_165 (lv_at hl 13 rfl) ?_
        refine lv_aload_n hx hb dX0_lay_167 rfl (lv_at hl 4 rfl) ?_
        refine lv_iload hx hb dX0_lay_168 (lv_at hl 15 rfl) ?_
        refine lv_iconst (v := 2) hx hb dX0_lay_170 (by decide) ?_
        obtain ⟨r17, hr18, h⟩ := bnd h
        refine ro_i (runVN (As := [.int v13, .int (2)]) (rest := [.int v10, .int v7]) hG cx hl.1 (ctX1_cellAt l g a_p1 p1_told p1_lines p1_kinds p1_acts p1_cells v13 (2) r17 hr18) kmX1_cellAt kvX1_cellAt nm_64 ⟨rfl, rfl⟩ (roomOk_mk (by omega) (by omega)) (roV (q0 := 2) (ci := 1) hG (hP.sub [2, 3] rfl) hP rfl rfl) rfl rfl (Nat.le_of_ble_eq_true rfl) dX0_lay_171 ⟨Nat.le_of_ble_eq_true rfl, Nat.le_of_ble_eq_true rfl⟩) ?_
        refine lv_imul hx hb dX0_lay_174 ?_
        refine lv_iadd hx hb dX0_lay_175 ?_
        refine lv_istore (lv' := [(16, .int (v7 + (v10 * r17))), (15, .int (v6 + (v9 * r15))), (11, .int v13), (14, .int z0), (0, .ref ((a_t 0))), (1, .ref ((a_p1 0))), (2, .int v2), (3, .int v3), (4, .int v4), (5, .int v5), (6, .int v6), (7, .int v7), (8, .int v8), (9, .int v9), (10, .int v10), (12, .int v12), (13, .int v13)]) hx hb dX0_lay_176 hl (by decide) rfl (fun ls hl => ?_)
        refine lv_aload_n hx hb dX0_lay_178 rfl (lv_at hl 4 rfl) ?_
        refine lv_aload_n hx hb dX0_lay_179 rfl (lv_at hl 5 rfl) ?_
        refine lv_iload_n hx hb dX0_lay_180 rfl (lv_at hl 6 rfl) ?_
        refine lv_iconst (v := 1) hx hb dX0_lay_181 (by decide) ?_
        refine lv_iadd hx hb dX0_lay_182 ?_
        refine lv_iload_n hx hb dX0_lay_183 rfl (lv_at hl 7 rfl) ?_
        refine lv_iload hx hb dX0_lay_184 (lv_at hl 16 rfl) ?_
        refine lv_iconst (v := 4) hx hb dX0_lay_186 (by decide) ?_
        refine lv_iload_n hx hb dX0_lay_187 rfl (lv_at hl 6 rfl) ?_
        refine lv_imul hx hb dX0_lay_188 ?_
        refine lv_ishl hx hb dX0_lay_189 ?_
        refine lv_ior hx hb dX0_lay_190 ?_
        refine lv_iload hx hb dX0_lay_191 (lv_at hl 3 rfl) ?_
        refine lv_iload hx hb dX0_lay_193 (lv_at hl 9 rfl) ?_
        refine lv_iconst (v := 1) hx hb dX0_lay_195 (by decide) ?_
        refine lv_iload hx hb dX0_lay_196 (lv_at hl 15 rfl) ?_
        refine lv_ishl hx hb dX0_lay_198 ?_
        refine lv_ior hx hb dX0_lay_199 ?_
        refine lv_iload hx hb dX0_lay_200 (lv_at hl 1 rfl) ?_
        refine lv_iload hx hb dX0_lay_202 (lv_at hl 0 rfl) ?_
        obtain ⟨w20, w21, hr19, h⟩ := ob2_out h
        refine rw_v (WN := fun u22 => [((a_t 0), .inr (0, [.ref b_t_rows, .ref b_t_seen, .int w21, .int t_ready, .int t_pool, .int t_plies, .int t_room])), (b_t_rows, .inl (g.2.2.1 1, t_rows_n, .inr (.inl w20))), ((a_p1 0), .inr (1, [.ref (a_p1 1), .ref (a_p1 2), .ref (a_p1 3), .ref (a_p1 4), .ref (a_p1 5), .int p1_told, .int p1_lines, .int p1_kinds, .int p1_acts])), ((a_p1 2), .inl (g.2.2.1 0, 144, .inl p1_cells))]) (wr := []) (runV (As := [.ref ((a_p1 0)), .int (v2 + 1), .int (v3 ||| (v13 <<< ((4 * v2) &&& 31))), .int z0, .int (v5 ||| (1 <<< (v12 &&& 31))), .int (v6 + (v9 * r15)), .int (v7 + (v10 * r17))]) (rest := []) cx hl.1 (IH H.size a_t b_t_rows b_t_seen a_p1 t_size t_ready t_pool t_plies t_room t_rows_n t_rows p1_told p1_lines p1_kinds p1_acts p1_cells (v2 + 1) (v3 ||| (v13 <<< ((4 * v2) &&& 31))) z0 (v5 ||| (1 <<< (v12 &&& 31))) (v6 + (v9 * r15)) (v7 + (v10 * r17)) w20 w21 hr19) kmX0_lay kvX0_lay lm_X0_55 ⟨rfl, rfl⟩ (roomOk_mk (by omega) (by omega)) (rwV (q0 := 0) (ci := 0) hG (hP.sub [0, 1, 2, 3] rfl) (hD.sub [0, 1, 2, 3] (by decide) rfl) hAb hb0 hS hP rfl rfl) rfl rfl (Nat.le_of_ble_eq_true rfl) dX0_lay_204 ⟨Nat.le_of_ble_eq_true rfl, Nat.le_of_ble_eq_true rfl⟩) hP hD hS hA [0, 1, 2, 3] [] rfl rfl (by decide) (by decide) (fun _ => rfl) (fun u22 H locs hP hD hS => ?_)
        have hG := hGk hS
        exact w207 _ hk70 w20 w21 v2 v3 v4 v5 v6 v7 v8 v9 v10 v13 v12 _ _ hP hD hS _ (lv_sub hl [4, 5, 6, 7, 8, 9, 10, 11, 12, 13, 14, 2, 15] rfl) h
      · have h := itn c14 h
        refine lv_goto (tgt := 207) hx hb dX0_lay_141 (by decide) ?_
        exact w207 _ hk70 t_rows t_size v2 v3 v4 v5 v6 v7 v8 v9 v10 v11 v12 _ _ hP hD hS _ (lv_sub hl [1, 2, 3, 4, 5, 6, 7, 8, 9, 10, 11, 12, 13] rfl) h
  have w70 : ∀ (n : Nat) (t_rows : Nat → Int64) (t_size : Int32) (v2 : Int32) (v3 : Int32) (v4 : Int32) (v5 : Int32) (v6 : Int32) (v7 : Int32) (v8 : Int32) (v9 : Int32) (v10 : Int32) (v11 : Int32) (v12 : Int32) (H : Heap) (locs : List Loc), va_P g.2.1 vwCl [((a_t 0), .inr (0, [.ref b_t_rows, .ref b_t_seen, .int t_size, .int t_ready, .int t_pool, .int t_plies, .int t_room])), (b_t_rows, .inl (g.2.2.1 1, t_rows_n, .inr (.inl t_rows))), ((a_p1 0), .inr (1, [.ref (a_p1 1), .ref (a_p1 2), .ref (a_p1 3), .ref (a_p1 4), .ref (a_p1 5), .int p1_told, .int p1_lines, .int p1_kinds, .int p1_acts])), ((a_p1 2), .inl (g.2.2.1 0, 144, .inl p1_cells))] H → va_D A [((a_t 0), .inr (0, [.ref b_t_rows, .ref b_t_seen, .int t_size, .int t_ready, .int t_pool, .int t_plies, .int t_room])), (b_t_rows, .inl (g.2.2.1 1, t_rows_n, .inr (.inl t_rows))), ((a_p1 0), .inr (1, [.ref (a_p1 1), .ref (a_p1 2), .ref (a_p1 3), .ref (a_p1 4), .ref (a_p1 5), .int p1_told, .int p1_lines, .int p1_kinds, .int p1_acts])), ((a_p1 2), .inl (g.2.2.1 0, 144, .inl p1_cells))] → va_S A s.heap H locs → ∀ (ls : Array Slot), lv_has ls 17 [(0, .ref ((a_t 0))), (1, .ref ((a_p1 0))), (2, .int v2), (3, .int v3), (4, .int v4), (5, .int v5), (6, .int v6), (7, .int v7), (8, .int v8), (9, .int v9), (10, .int v10), (11, .int v11), (12, .int v12)] → fX0_lay_70 rc  n t_rows_n t_rows t_size t_pool t_plies t_room p1_cells v2 v3 v4 v5 v6 v7 v8 v9 v10 v11 v12 = some (o_t_rows, o_t_size) → W p l e ⟨4 + (d + 1), 0, 0, 101 + (d + 1) * 36⟩ s m args below meth c H locs 0 0 Q (F0 m 70 ls []) := by
    intro n
    induction n with
    | zero => intro t_rows t_size v2 v3 v4 v5 v6 v7 v8 v9 v10 v11 v12 H locs hP hD hS ls hl h; cases (fX0_lay_70_z rc  t_rows_n t_rows t_size t_pool t_plies t_room p1_cells v2 v3 v4 v5 v6 v7 v8 v9 v10 v11 v12).symm.trans h
    | succ n ih =>
    intro t_rows t_size v2 v3 v4 v5 v6 v7 v8 v9 v10 v11 v12 H locs hP hD hS ls hl h
    have h := (fX0_lay_70_s rc  n t_rows_n t_rows t_size t_pool t_plies t_room p1_cells v2 v3 v4 v5 v6 v7 v8 v9 v10 v11 v12).symm.trans h
    have hG := hGk hS
    refine lv_iload hx hb dX0_lay_70 (lv_at hl 12 rfl) ?_
    refine lv_aload_n hx hb dX0_lay_72 rfl (lv_at hl 0 rfl) ?_
    refine xa_get (C := RX0) (T := TX0) (N := 7) cx hG hP 0 rfl rfl uX0 5 (by decide) lf_X0_41 rfl dX0_lay_73 ?_
    refine lv_icmp_ge (tgt := 213) hx hb dX0_lay_76 (by decide) (fun c10 => ?_) (fun c10 => ?_)
    · have h := itp c10 h
      cases h
      exact hret (fun _ => 0) _ _ _ _ dX0_lay_213 (hP.sub [0, 1, 2, 3] rfl) (hD.sub [0, 1, 2, 3] (by decide) rfl) hS
    · have h := itn c10 h
      refine lv_iload hx hb dX0_lay_79 (lv_at hl 5 rfl) ?_
      refine lv_iload hx hb dX0_lay_81 (lv_at hl 12 rfl) ?_
      refine lv_ishr hx hb dX0_lay_83 ?_
      refine lv_iconst (v := 1) hx hb dX0_lay_84 (by decide) ?_
      refine lv_iand hx hb dX0_lay_85 ?_
      refine lv_if_eq (tgt := 92) hx hb dX0_lay_86 (by decide) (fun c11 => ?_) (fun c11 => ?_)
      · have h := itp c11 h
        refine lv_aload_n hx hb dX0_lay_92 rfl (lv_at hl 0 rfl) ?_
        refine xa_get (C := RX0) (T := TX0) (N := 7) cx hG hP 0 rfl rfl uX0 4 (by decide) lf_X0_37 rfl dX0_lay_93 ?_
        refine lv_iconst (v := 4) hx hb dX0_lay_96 (by decide) ?_
        refine lv_iload hx hb dX0_lay_97 (lv_at hl 12 rfl) ?_
        refine lv_imul hx hb dX0_lay_99 ?_
        refine lv_iushr (v := iushr t_pool (4 * v12)) hx hb dX0_lay_100 rfl ?_
        refine lv_bipush (v := 15) hx hb dX0_lay_101 (by decide) ?_
        refine lv_iand hx hb dX0_lay_103 ?_
        refine lv_istore (lv' := [(13, .int ((iushr t_pool (4 * v12)) &&& 15)), (0, .ref ((a_t 0))), (1, .ref ((a_p1 0))), (2, .int v2), (3, .int v3), (4, .int v4), (5, .int v5), (6, .int v6), (7, .int v7), (8, .int v8), (9, .int v9), (10, .int v10), (11, .int v11), (12, .int v12)]) hx hb dX0_lay_104 hl (by decide) rfl (fun ls hl => ?_)
        refine lv_iload hx hb dX0_lay_106 (lv_at hl 0 rfl) ?_
        refine lv_iconst (v := 3) hx hb dX0_lay_108 (by decide) ?_
        refine lv_iand hx hb dX0_lay_109 ?_
        refine lv_iload hx hb dX0_lay_110 (lv_at hl 9 rfl) ?_
        refine lv_icmp_ne (tgt := 122) hx hb dX0_lay_112 (by decide) (fun c12 => ?_) (fun c12 => ?_)
        · have h := itn c12 h
          refine lv_iconst (v := 1) hx hb dX0_lay_122 (by decide) ?_
          exact w123 _ ih t_rows t_size v2 v3 v4 v5 v6 v7 v8 v9 v10 v11 v12 ((iushr t_pool (4 * v12)) &&& 15) 1 _ _ hP hD hS _ (lv_sub hl [1, 2, 3, 4, 5, 6, 7, 8, 9, 10, 11, 12, 13, 0] rfl) h
        · have h := itp c12 h
          refine lv_iload hx hb dX0_lay_115 (lv_at hl 5 rfl) ?_
          refine lv_iconst (v := 1) hx hb dX0_lay_117 (by decide) ?_
          refine lv_iadd hx hb dX0_lay_118 ?_
          refine lv_goto (tgt := 123) hx hb dX0_lay_119 (by decide) ?_
          exact w123 _ ih t_rows t_size v2 v3 v4 v5 v6 v7 v8 v9 v10 v11 v12 ((iushr t_pool (4 * v12)) &&& 15) (v4 + 1) _ _ hP hD hS _ (lv_sub hl [1, 2, 3, 4, 5, 6, 7, 8, 9, 10, 11, 12, 13, 0] rfl) h
      · have h := itn c11 h
        refine lv_goto (tgt := 207) hx hb dX0_lay_89 (by decide) ?_
        exact w207 _ ih t_rows t_size v2 v3 v4 v5 v6 v7 v8 v9 v10 v11 v12 _ _ hP hD hS _ (lv_sub hl [0, 1, 2, 3, 4, 5, 6, 7, 8, 9, 10, 11, 12] rfl) h
  have w45 : ∀ (t_rows : Nat → Int64) (t_size : Int32) (v2 : Int32) (v3 : Int32) (v4 : Int32) (v5 : Int32) (v6 : Int32) (v7 : Int32) (z0 : Int32) (H : Heap) (locs : List Loc), va_P g.2.1 vwCl [((a_t 0), .inr (0, [.ref b_t_rows, .ref b_t_seen, .int t_size, .int t_ready, .int t_pool, .int t_plies, .int t_room])), (b_t_rows, .inl (g.2.2.1 1, t_rows_n, .inr (.inl t_rows))), ((a_p1 0), .inr (1, [.ref (a_p1 1), .ref (a_p1 2), .ref (a_p1 3), .ref (a_p1 4), .ref (a_p1 5), .int p1_told, .int p1_lines, .int p1_kinds, .int p1_acts])), ((a_p1 2), .inl (g.2.2.1 0, 144, .inl p1_cells))] H → va_D A [((a_t 0), .inr (0, [.ref b_t_rows, .ref b_t_seen, .int t_size, .int t_ready, .int t_pool, .int t_plies, .int t_room])), (b_t_rows, .inl (g.2.2.1 1, t_rows_n, .inr (.inl t_rows))), ((a_p1 0), .inr (1, [.ref (a_p1 1), .ref (a_p1 2), .ref (a_p1 3), .ref (a_p1 4), .ref (a_p1 5), .int p1_told, .int p1_lines, .int p1_kinds, .int p1_acts])), ((a_p1 2), .inl (g.2.2.1 0, 144, .inl p1_cells))] → va_S A s.heap H locs → ∀ (ls : Array Slot), lv_has ls 17 [(0, .ref ((a_t 0))), (1, .ref ((a_p1 0))), (2, .int v2), (3, .int v3), (4, .int v4), (5, .int v5), (6, .int v6), (7, .int v7)] → fX0_lay_45 rc  t_rows_n t_rows t_size t_pool t_plies t_room p1_cells v2 v3 v4 v5 v6 v7 z0 = some (o_t_rows, o_t_size) → W p l e ⟨4 + (d + 1), 0, 0, 101 + (d + 1) * 36⟩ s m args below meth c H locs 0 0 Q (F0 m 45 ls [.int z0]) := by
    intro t_rows t_size v2 v3 v4 v5 v6 v7 z0 H locs hP hD hS ls hl h
    unfold fX0_lay_45 at h
    have hG := hGk hS
    refine lv_istore (lv' := [(8, .int z0), (0, .ref ((a_t 0))), (1, .ref ((a_p1 0))), (2, .int v2), (3, .int v3), (4, .int v4), (5, .int v5), (6, .int v6), (7, .int v7)]) hx hb dX0_lay_45 hl (by decide) rfl (fun ls hl => ?_)
    refine lv_iload_n hx hb dX0_lay_47 rfl (lv_at hl 3 rfl) ?_
    refine lv_aload_n hx hb dX0_lay_48 rfl (lv_at hl 1 rfl) ?_
    refine xa_get (C := RX0) (T := TX0) (N := 7) cx hG hP 0 rfl rfl uX0 5 (by decide) lf_X0_41 rfl dX0_lay_49 ?_
    refine ro_i (runSN (As := [.int v2, .int t_plies]) (rest := []) hG cx hl.1 (ctX3_farOf l g v2 t_plies (fX3_farOf v2 t_plies) rfl) kmX3_farOf ksX3_farOf nm_62 ⟨rfl, rfl⟩ (roomOk_mk (by omega) (by omega)) (roS hG (hP.sub [] rfl)) rfl rfl (Nat.le_of_ble_eq_true rfl) dX0_lay_52 ⟨Nat.le_of_ble_eq_true rfl, Nat.le_of_ble_eq_true rfl⟩) ?_
    refine lv_istore (lv' := [(9, .int (fX3_farOf v2 t_plies)), (8, .int z0), (0, .ref ((a_t 0))), (1, .ref ((a_p1 0))), (2, .int v2), (3, .int v3), (4, .int v4), (5, .int v5), (6, .int v6), (7, .int v7)]) hx hb dX0_lay_55 hl (by decide) rfl (fun ls hl => ?_)
    refine lv_iload hx hb dX0_lay_57 (lv_at hl 0 rfl) ?_
    refine ro_i (runSN (As := [.int (fX3_farOf v2 t_plies)]) (rest := []) hG cx hl.1 (ctX3_thickOf l g (fX3_farOf v2 t_plies) (fX3_thickOf (fX3_farOf v2 t_plies)) rfl) kmX3_thickOf ksX3_thickOf nm_63 ⟨rfl, rfl⟩ (roomOk_mk (by omega) (by omega)) (roS hG (hP.sub [] rfl)) rfl rfl (Nat.le_of_ble_eq_true rfl) dX0_lay_59 ⟨Nat.le_of_ble_eq_true rfl, Nat.le_of_ble_eq_true rfl⟩) ?_
    refine lv_istore (lv' := [(10, .int (fX3_thickOf (fX3_farOf v2 t_plies))), (9, .int (fX3_farOf v2 t_plies)), (8, .int z0), (0, .ref ((a_t 0))), (1, .ref ((a_p1 0))), (2, .int v2), (3, .int v3), (4, .int v4), (5, .int v5), (6, .int v6), (7, .int v7)]) hx hb dX0_lay_62 hl (by decide) rfl (fun ls hl => ?_)
    refine lv_iconst (v := -1) hx hb dX0_lay_64 (by decide) ?_
    refine lv_istore (lv' := [(11, .int (-1)), (10, .int (fX3_thickOf (fX3_farOf v2 t_plies))), (9, .int (fX3_farOf v2 t_plies)), (8, .int z0), (0, .ref ((a_t 0))), (1, .ref ((a_p1 0))), (2, .int v2), (3, .int v3), (4, .int v4), (5, .int v5), (6, .int v6), (7, .int v7)]) hx hb dX0_lay_65 hl (by decide) rfl (fun ls hl => ?_)
    refine lv_iconst (v := 0) hx hb dX0_lay_67 (by decide) ?_
    refine lv_istore (lv' := [(12, .int (0)), (11, .int (-1)), (10, .int (fX3_thickOf (fX3_farOf v2 t_plies))), (9, .int (fX3_farOf v2 t_plies)), (8, .int z0), (0, .ref ((a_t 0))), (1, .ref ((a_p1 0))), (2, .int v2), (3, .int v3), (4, .int v4), (5, .int v5), (6, .int v6), (7, .int v7)]) hx hb dX0_lay_68 hl (by decide) rfl (fun ls hl => ?_)
    exact w70 FU t_rows t_size v2 v3 v4 v5 v6 v7 z0 (fX3_farOf v2 t_plies) (fX3_thickOf (fX3_farOf v2 t_plies)) (-1) 0 _ _ hP hD hS _ (lv_sub hl [5, 6, 7, 8, 9, 10, 11, 12, 4, 3, 2, 1, 0] rfl) h
  unfold fX0_lay_e at h
  refine lv_iload_n hx hb dX0_lay_0 rfl (lv_at hl 2 rfl) ?_
  refine lv_aload_n hx hb dX0_lay_1 rfl (lv_at hl 0 rfl) ?_
  refine xa_get (C := RX0) (T := TX0) (N := 7) cx hG hP 0 rfl rfl uX0 5 (by decide) lf_X0_41 rfl dX0_lay_2 ?_
  refine lv_icmp_ge (tgt := 14) hx hb dX0_lay_5 (by decide) (fun c1 => ?_) (fun c1 => ?_)
  · have h := itp c1 h
    exact w14 t_rows t_size v3 v6 v7 _ _ hP hD hS _ (lv_sub hl [0, 1, 3, 6, 7] rfl) h
  · have h := itn c1 h
    refine lv_iload_n hx hb dX0_lay_8 rfl (lv_at hl 2 rfl) ?_
    refine lv_bipush (v := 8) hx hb dX0_lay_9 (by decide) ?_
    refine lv_icmp_lt (tgt := 30) hx hb dX0_lay_11 (by decide) (fun c2 => ?_) (fun c2 => ?_)
    · have h := itp c2 h
      refine lv_iload_n hx hb dX0_lay_30 rfl (lv_at hl 2 rfl) ?_
      refine lv_if_le (tgt := 44) hx hb dX0_lay_31 (by decide) (fun c3 => ?_) (fun c3 => ?_)
      · have h := itp c3 h
        refine lv_iconst (v := -1) hx hb dX0_lay_44 (by decide) ?_
        exact w45 t_rows t_size v2 v3 v4 v5 v6 v7 (-1) _ _ hP hD hS _ (lv_sub hl [0, 1, 2, 3, 4, 5, 6, 7] rfl) h
      · have h := itn c3 h
        refine lv_iload_n hx hb dX0_lay_34 rfl (lv_at hl 3 rfl) ?_
        refine lv_iload_n hx hb dX0_lay_35 rfl (lv_at hl 2 rfl) ?_
        refine lv_iconst (v := 1) hx hb dX0_lay_36 (by decide) ?_
        refine lv_isub hx hb dX0_lay_37 ?_
        refine ro_i (runSN (As := [.int v3, .int (v2 - 1)]) (rest := []) hG cx hl.1 (ctX3_angleAt l g v3 (v2 - 1) (fX3_angleAt v3 (v2 - 1)) rfl) kmX3_angleAt ksX3_angleAt nm_61 ⟨rfl, rfl⟩ (roomOk_mk (by omega) (by omega)) (roS hG (hP.sub [] rfl)) rfl rfl (Nat.le_of_ble_eq_true rfl) dX0_lay_38 ⟨Nat.le_of_ble_eq_true rfl, Nat.le_of_ble_eq_true rfl⟩) ?_
        refine lv_goto (tgt := 45) hx hb dX0_lay_41 (by decide) ?_
        exact w45 t_rows t_size v2 v3 v4 v5 v6 v7 (fX3_angleAt v3 (v2 - 1)) _ _ hP hD hS _ (lv_sub hl [0, 1, 2, 3, 4, 5, 6, 7] rfl) h
    · have h := itn c2 h
      exact w14 t_rows t_size v3 v6 v7 _ _ hP hD hS _ (lv_sub hl [0, 1, 3, 6, 7] rfl) h
-- X0_prepare
theorem dX0_prepare_0 : decode cX0_prepare 0 = .ok (.aload_n 1, 1) := by decide +kernel
theorem dX0_prepare_1 : decode cX0_prepare 1 = .ok (.invokevirtual 22, 3) := by decide +kernel
theorem dX0_prepare_4 : decode cX0_prepare 4 = .ok (.aload_n 1, 1) := by decide +kernel
theorem dX0_prepare_5 : decode cX0_prepare 5 = .ok (.invokevirtual 28, 3) := by decide +kernel
theorem dX0_prepare_8 : decode cX0_prepare 8 = .ok (.invokestatic 31, 3) := by decide +kernel
theorem dX0_prepare_11 : decode cX0_prepare 11 = .ok (.istore_n 2, 1) := by decide +kernel
theorem dX0_prepare_12 : decode cX0_prepare 12 = .ok (.aload_n 0, 1) := by decide +kernel
theorem dX0_prepare_13 : decode cX0_prepare 13 = .ok (.getfield 18, 3) := by decide +kernel
theorem dX0_prepare_16 : decode cX0_prepare 16 = .ok (.ifCond .eq 34, 3) := by decide +kernel
theorem dX0_prepare_19 : decode cX0_prepare 19 = .ok (.aload_n 0, 1) := by decide +kernel
theorem dX0_prepare_20 : decode cX0_prepare 20 = .ok (.getfield 37, 3) := by decide +kernel
theorem dX0_prepare_23 : decode cX0_prepare 23 = .ok (.iload_n 2, 1) := by decide +kernel
theorem dX0_prepare_24 : decode cX0_prepare 24 = .ok (.if_icmp .ne 26, 3) := by decide +kernel
theorem dX0_prepare_27 : decode cX0_prepare 27 = .ok (.aload_n 0, 1) := by decide +kernel
theorem dX0_prepare_28 : decode cX0_prepare 28 = .ok (.getfield 41, 3) := by decide +kernel
theorem dX0_prepare_31 : decode cX0_prepare 31 = .ok (.aload_n 1, 1) := by decide +kernel
theorem dX0_prepare_32 : decode cX0_prepare 32 = .ok (.invokevirtual 28, 3) := by decide +kernel
theorem dX0_prepare_35 : decode cX0_prepare 35 = .ok (.if_icmp .ne 15, 3) := by decide +kernel
theorem dX0_prepare_38 : decode cX0_prepare 38 = .ok (.aload_n 0, 1) := by decide +kernel
theorem dX0_prepare_39 : decode cX0_prepare 39 = .ok (.getfield 43, 3) := by decide +kernel
theorem dX0_prepare_42 : decode cX0_prepare 42 = .ok (.aload_n 1, 1) := by decide +kernel
theorem dX0_prepare_43 : decode cX0_prepare 43 = .ok (.invokevirtual 46, 3) := by decide +kernel
theorem dX0_prepare_46 : decode cX0_prepare 46 = .ok (.if_icmp .ne 4, 3) := by decide +kernel
theorem dX0_prepare_49 : decode cX0_prepare 49 = .ok (.return_, 1) := by decide +kernel
theorem dX0_prepare_50 : decode cX0_prepare 50 = .ok (.aload_n 0, 1) := by decide +kernel
theorem dX0_prepare_51 : decode cX0_prepare 51 = .ok (.iload_n 2, 1) := by decide +kernel
theorem dX0_prepare_52 : decode cX0_prepare 52 = .ok (.putfield 37, 3) := by decide +kernel
theorem dX0_prepare_55 : decode cX0_prepare 55 = .ok (.aload_n 0, 1) := by decide +kernel
theorem dX0_prepare_56 : decode cX0_prepare 56 = .ok (.aload_n 1, 1) := by decide +kernel
theorem dX0_prepare_57 : decode cX0_prepare 57 = .ok (.invokevirtual 28, 3) := by decide +kernel
theorem dX0_prepare_60 : decode cX0_prepare 60 = .ok (.putfield 41, 3) := by decide +kernel
theorem dX0_prepare_63 : decode cX0_prepare 63 = .ok (.aload_n 0, 1) := by decide +kernel
theorem dX0_prepare_64 : decode cX0_prepare 64 = .ok (.aload_n 1, 1) := by decide +kernel
theorem dX0_prepare_65 : decode cX0_prepare 65 = .ok (.invokevirtual 46, 3) := by decide +kernel
theorem dX0_prepare_68 : decode cX0_prepare 68 = .ok (.putfield 43, 3) := by decide +kernel
theorem dX0_prepare_71 : decode cX0_prepare 71 = .ok (.aload_n 0, 1) := by decide +kernel
theorem dX0_prepare_72 : decode cX0_prepare 72 = .ok (.iconst 0, 1) := by decide +kernel
theorem dX0_prepare_73 : decode cX0_prepare 73 = .ok (.putfield 49, 3) := by decide +kernel
theorem dX0_prepare_76 : decode cX0_prepare 76 = .ok (.aload_n 0, 1) := by decide +kernel
theorem dX0_prepare_77 : decode cX0_prepare 77 = .ok (.invokevirtual 52, 3) := by decide +kernel
theorem dX0_prepare_80 : decode cX0_prepare 80 = .ok (.istore_n 3, 1) := by decide +kernel
theorem dX0_prepare_81 : decode cX0_prepare 81 = .ok (.aload_n 0, 1) := by decide +kernel
theorem dX0_prepare_82 : decode cX0_prepare 82 = .ok (.getfield 9, 3) := by decide +kernel
theorem dX0_prepare_85 : decode cX0_prepare 85 = .ok (.arraylength, 1) := by decide +kernel
theorem dX0_prepare_86 : decode cX0_prepare 86 = .ok (.iload_n 3, 1) := by decide +kernel
theorem dX0_prepare_87 : decode cX0_prepare 87 = .ok (.if_icmp .ge 10, 3) := by decide +kernel
theorem dX0_prepare_90 : decode cX0_prepare 90 = .ok (.aload_n 0, 1) := by decide +kernel
theorem dX0_prepare_91 : decode cX0_prepare 91 = .ok (.iload_n 3, 1) := by decide +kernel
theorem dX0_prepare_92 : decode cX0_prepare 92 = .ok (.newarray .long, 2) := by decide +kernel
theorem dX0_prepare_94 : decode cX0_prepare 94 = .ok (.putfield 9, 3) := by decide +kernel
theorem dX0_prepare_97 : decode cX0_prepare 97 = .ok (.aload_n 0, 1) := by decide +kernel
theorem dX0_prepare_98 : decode cX0_prepare 98 = .ok (.aload_n 1, 1) := by decide +kernel
theorem dX0_prepare_99 : decode cX0_prepare 99 = .ok (.iconst 0, 1) := by decide +kernel
theorem dX0_prepare_100 : decode cX0_prepare 100 = .ok (.iconst 0, 1) := by decide +kernel
theorem dX0_prepare_101 : decode cX0_prepare 101 = .ok (.iconst 0, 1) := by decide +kernel
theorem dX0_prepare_102 : decode cX0_prepare 102 = .ok (.iconst 0, 1) := by decide +kernel
theorem dX0_prepare_103 : decode cX0_prepare 103 = .ok (.iconst 0, 1) := by decide +kernel
theorem dX0_prepare_104 : decode cX0_prepare 104 = .ok (.iconst 0, 1) := by decide +kernel
theorem dX0_prepare_105 : decode cX0_prepare 105 = .ok (.invokevirtual 55, 3) := by decide +kernel
theorem dX0_prepare_108 : decode cX0_prepare 108 = .ok (.aload_n 0, 1) := by decide +kernel
theorem dX0_prepare_109 : decode cX0_prepare 109 = .ok (.iconst 1, 1) := by decide +kernel
theorem dX0_prepare_110 : decode cX0_prepare 110 = .ok (.putfield 18, 3) := by decide +kernel
theorem dX0_prepare_113 : decode cX0_prepare 113 = .ok (.return_, 1) := by decide +kernel
noncomputable def fX0_prepare_97 (lim0 : Nat)  (t_rows_n : Nat) (t_rows : Nat → Int64) (t_size : Int32) (t_ready : Int32) (t_pool : Int32) (t_plies : Int32) (t_room : Int32) (p1_cells : Nat → Int32) : Option (Nat × (Nat → Int64) × Int32 × Int32 × Int32 × Int32 × Int32) := ob2 (fX0_lay RD t_rows_n t_rows t_size t_pool t_plies t_room p1_cells 0 0 0 0 0 0) fun w24 w25 => some (t_rows_n, w24, w25, 1, t_pool, t_plies, t_room)
noncomputable def fX0_prepare_50 (lim0 : Nat)  (t_rows_n : Nat) (t_rows : Nat → Int64) (t_size : Int32) (t_ready : Int32) (t_pool : Int32) (t_plies : Int32) (t_room : Int32) (p1_cells : Nat → Int32) (p1_sizes : Nat → Int32) (p1_rooms : Nat → Int32) (p1_acts : Int32) (v2 : Int32) : Option (Nat × (Nat → Int64) × Int32 × Int32 × Int32 × Int32 × Int32) := (fX1_plies p1_sizes p1_acts).bind fun r15 => (fX1_roomNow p1_rooms p1_acts).bind fun r17 => (fX0_mostRows v2 r15).bind fun r19 => (if r19 ≤ (nI t_rows_n) then fX0_prepare_97 lim0 t_rows_n t_rows 0 t_ready v2 r15 r17 p1_cells else nn lim0 r19 (fX0_prepare_97 lim0 r19.toNatClampNeg (fun _ => 0) 0 t_ready v2 r15 r17 p1_cells))
noncomputable def fX0_prepare (lim0 : Nat)  (t_rows_n : Nat) (t_rows : Nat → Int64) (t_size : Int32) (t_ready : Int32) (t_pool : Int32) (t_plies : Int32) (t_room : Int32) (p1_cells : Nat → Int32) (p1_rows : Nat → Int32) (p1_sizes : Nat → Int32) (p1_rooms : Nat → Int32) (p1_acts : Int32) : Option (Nat × (Nat → Int64) × Int32 × Int32 × Int32 × Int32 × Int32) := (fX1_row p1_rows p1_acts).bind fun r1 => (fX1_plies p1_sizes p1_acts).bind fun r3 => (fX3_sorted r1 r3).bind fun r5 => (if t_ready = 0 then fX0_prepare_50 lim0 t_rows_n t_rows t_size t_ready t_pool t_plies t_room p1_cells p1_sizes p1_rooms p1_acts r5 else (if t_pool = r5 then (fX1_plies p1_sizes p1_acts).bind fun r9 => (if t_plies = r9 then (fX1_roomNow p1_rooms p1_acts).bind fun r12 => (if t_room = r12 then some (t_rows_n, t_rows, t_size, t_ready, t_pool, t_plies, t_room) else fX0_prepare_50 lim0 t_rows_n t_rows t_size t_ready t_pool t_plies t_room p1_cells p1_sizes p1_rooms p1_acts r5) else fX0_prepare_50 lim0 t_rows_n t_rows t_size t_ready t_pool t_plies t_room p1_cells p1_sizes p1_rooms p1_acts r5) else fX0_prepare_50 lim0 t_rows_n t_rows t_size t_ready t_pool t_plies t_room p1_cells p1_sizes p1_rooms p1_acts r5))
set_option maxHeartbeats 4000000 in
set_option maxRecDepth 100000 in
theorem ctX0_prepare (l : Launch) (g : GT) (lim0 : Nat) (sz : Nat) (a_t : Nat → Nat) (b_t_rows : Nat) (b_t_seen : Nat) (a_p1 : Nat → Nat) (t_size : Int32) (t_ready : Int32) (t_pool : Int32) (t_plies : Int32) (t_room : Int32) (t_rows_n : Nat) (t_rows : Nat → Int64) (p1_told : Int32) (p1_lines : Int32) (p1_kinds : Int32) (p1_acts : Int32) (p1_cells : Nat → Int32) (p1_rows : Nat → Int32) (p1_sizes : Nat → Int32) (p1_rooms : Nat → Int32) (o_t_rows_n : Nat) (o_t_rows : Nat → Int64) (o_t_size : Int32) (o_t_ready : Int32) (o_t_pool : Int32) (o_t_plies : Int32) (o_t_room : Int32) (h : fX0_prepare lim0 t_rows_n t_rows t_size t_ready t_pool t_plies t_room p1_cells p1_rows p1_sizes p1_rooms p1_acts = some (o_t_rows_n, o_t_rows, o_t_size, o_t_ready, o_t_pool, o_t_plies, o_t_room)) : Met l yX0_prepare (Cond.code yX0_prepare cX0_prepare 4 none :: Tw) ⟨15, 1, lim0, 497⟩ (va_Pc [.ref ((a_t 0)), .ref ((a_p1 0))] (rwB g [((a_t 0), .inr (0, [.ref b_t_rows, .ref b_t_seen, .int t_size, .int t_ready, .int t_pool, .int t_plies, .int t_room])), (b_t_rows, .inl (g.2.2.1 1, t_rows_n, .inr (.inl t_rows))), ((a_p1 0), .inr (1, [.ref (a_p1 1), .ref (a_p1 2), .ref (a_p1 3), .ref (a_p1 4), .ref (a_p1 5), .int p1_told, .int p1_lines, .int p1_kinds, .int p1_acts])), ((a_p1 2), .inl (g.2.2.1 0, 144, .inl p1_cells)), ((a_p1 3), .inl (g.2.2.1 0, 31, .inl p1_rows)), ((a_p1 4), .inl (g.2.2.1 0, 31, .inl p1_sizes)), ((a_p1 5), .inl (g.2.2.1 0, 31, .inl p1_rooms))] sz)) (va_Qv (fun (_ : Nat → Nat) => True) (fun u => rwE g (va_A [((a_t 0), .inr (0, [.ref b_t_rows, .ref b_t_seen, .int t_size, .int t_ready, .int t_pool, .int t_plies, .int t_room])), (b_t_rows, .inl (g.2.2.1 1, t_rows_n, .inr (.inl t_rows))), ((a_p1 0), .inr (1, [.ref (a_p1 1), .ref (a_p1 2), .ref (a_p1 3), .ref (a_p1 4), .ref (a_p1 5), .int p1_told, .int p1_lines, .int p1_kinds, .int p1_acts])), ((a_p1 2), .inl (g.2.2.1 0, 144, .inl p1_cells)), ((a_p1 3), .inl (g.2.2.1 0, 31, .inl p1_rows)), ((a_p1 4), .inl (g.2.2.1 0, 31, .inl p1_sizes)), ((a_p1 5), .inl (g.2.2.1 0, 31, .inl p1_rooms))] sz) [((a_t 0), .inr (0, [.ref (u 0), .ref b_t_seen, .int o_t_size, .int o_t_ready, .int o_t_pool, .int o_t_plies, .int o_t_room])), ((u 0), .inl (g.2.2.1 1, o_t_rows_n, .inr (.inl o_t_rows))), ((a_p1 0), .inr (1, [.ref (a_p1 1), .ref (a_p1 2), .ref (a_p1 3), .ref (a_p1 4), .ref (a_p1 5), .int p1_told, .int p1_lines, .int p1_kinds, .int p1_acts])), ((a_p1 2), .inl (g.2.2.1 0, 144, .inl p1_cells)), ((a_p1 3), .inl (g.2.2.1 0, 31, .inl p1_rows)), ((a_p1 4), .inl (g.2.2.1 0, 31, .inl p1_sizes)), ((a_p1 5), .inl (g.2.2.1 0, 31, .inl p1_rooms))]) (va_A [((a_t 0), .inr (0, [.ref b_t_rows, .ref b_t_seen, .int t_size, .int t_ready, .int t_pool, .int t_plies, .int t_room])), (b_t_rows, .inl (g.2.2.1 1, t_rows_n, .inr (.inl t_rows))), ((a_p1 0), .inr (1, [.ref (a_p1 1), .ref (a_p1 2), .ref (a_p1 3), .ref (a_p1 4), .ref (a_p1 5), .int p1_told, .int p1_lines, .int p1_kinds, .int p1_acts])), ((a_p1 2), .inl (g.2.2.1 0, 144, .inl p1_cells)), ((a_p1 3), .inl (g.2.2.1 0, 31, .inl p1_rows)), ((a_p1 4), .inl (g.2.2.1 0, 31, .inl p1_sizes)), ((a_p1 5), .inl (g.2.2.1 0, 31, .inl p1_rooms))] sz)) 1 lim0 (va_A [((a_t 0), .inr (0, [.ref b_t_rows, .ref b_t_seen, .int t_size, .int t_ready, .int t_pool, .int t_plies, .int t_room])), (b_t_rows, .inl (g.2.2.1 1, t_rows_n, .inr (.inl t_rows))), ((a_p1 0), .inr (1, [.ref (a_p1 1), .ref (a_p1 2), .ref (a_p1 3), .ref (a_p1 4), .ref (a_p1 5), .int p1_told, .int p1_lines, .int p1_kinds, .int p1_acts])), ((a_p1 2), .inl (g.2.2.1 0, 144, .inl p1_cells)), ((a_p1 3), .inl (g.2.2.1 0, 31, .inl p1_rows)), ((a_p1 4), .inl (g.2.2.1 0, 31, .inl p1_sizes)), ((a_p1 5), .inl (g.2.2.1 0, 31, .inl p1_rooms))] sz) := by
  refine rw_metv (by decide) (Nat.le_of_ble_eq_true rfl) (lv0 := [(0, .ref ((a_t 0))), (1, .ref ((a_p1 0)))]) rfl ?_
  intro p e s m args below meth c ls Q A cx hret hG hAb hb0 hA hP hD hl
  have hx := cx.1
  have hb := cx.2.1
  have hG0 := hG
  have hGk : ∀ {H : Heap} {locs : List Loc}, va_S A s.heap H locs → GE g s H := fun hS => hG0.keptS hAb hS
  have hSb : ∀ {H : Heap} {locs : List Loc}, va_S A s.heap H locs → va_S (fun a => g.1 ≤ a) s.heap H locs := fun hS => ⟨hS.1, fun q h1 h2 => hS.2.1 q h1 (fun z => h2 (hAb q z)), fun l hl => hAb _ (hS.2.2 l hl)⟩
  have hS : va_S A s.heap s.heap [] := va_S.rf
  have w97 : ∀ (t_rows_n : Nat) (t_rows : Nat → Int64) (t_size : Int32) (t_ready : Int32) (t_pool : Int32) (t_plies : Int32) (t_room : Int32) (b_t_rows : Nat) (H : Heap) (locs : List Loc), va_P g.2.1 vwCl [((a_t 0), .inr (0, [.ref b_t_rows, .ref b_t_seen, .int t_size, .int t_ready, .int t_pool, .int t_plies, .int t_room])), (b_t_rows, .inl (g.2.2.1 1, t_rows_n, .inr (.inl t_rows))), ((a_p1 0), .inr (1, [.ref (a_p1 1), .ref (a_p1 2), .ref (a_p1 3), .ref (a_p1 4), .ref (a_p1 5), .int p1_told, .int p1_lines, .int p1_kinds, .int p1_acts])), ((a_p1 2), .inl (g.2.2.1 0, 144, .inl p1_cells)), ((a_p1 3), .inl (g.2.2.1 0, 31, .inl p1_rows)), ((a_p1 4), .inl (g.2.2.1 0, 31, .inl p1_sizes)), ((a_p1 5), .inl (g.2.2.1 0, 31, .inl p1_rooms))] H → va_D A [((a_t 0), .inr (0, [.ref b_t_rows, .ref b_t_seen, .int t_size, .int t_ready, .int t_pool, .int t_plies, .int t_room])), (b_t_rows, .inl (g.2.2.1 1, t_rows_n, .inr (.inl t_rows))), ((a_p1 0), .inr (1, [.ref (a_p1 1), .ref (a_p1 2), .ref (a_p1 3), .ref (a_p1 4), .ref (a_p1 5), .int p1_told, .int p1_lines, .int p1_kinds, .int p1_acts])), ((a_p1 2), .inl (g.2.2.1 0, 144, .inl p1_cells)), ((a_p1 3), .inl (g.2.2.1 0, 31, .inl p1_rows)), ((a_p1 4), .inl (g.2.2.1 0, 31, .inl p1_sizes)), ((a_p1 5), .inl (g.2.2.1 0, 31, .inl p1_rooms))] → va_S A s.heap H locs → ∀ (ls : Array Slot), lv_has ls 4 [(0, .ref ((a_t 0))), (1, .ref ((a_p1 0)))] → fX0_prepare_97 lim0  t_rows_n t_rows t_size t_ready t_pool t_plies t_room p1_cells = some (o_t_rows_n, o_t_rows, o_t_size, o_t_ready, o_t_pool, o_t_plies, o_t_room) → W p l e ⟨15, 1, lim0, 497⟩ s m args below meth c H locs 1 lim0 Q (F0 m 97 ls []) := by
    intro t_rows_n t_rows t_size t_ready t_pool t_plies t_room b_t_rows H locs hP hD hS ls hl h
    unfold fX0_prepare_97 at h
    have hG := hGk hS
    refine lv_aload_n hx hb dX0_prepare_97 rfl (lv_at hl 0 rfl) ?_
    refine lv_aload_n hx hb dX0_prepare_98 rfl (lv_at hl 1 rfl) ?_
    refine lv_iconst (v := 0) hx hb dX0_prepare_99 (by decide) ?_
    refine lv_iconst (v := 0) hx hb dX0_prepare_100 (by decide) ?_
    refine lv_iconst (v := 0) hx hb dX0_prepare_101 (by decide) ?_
    refine lv_iconst (v := 0) hx hb dX0_prepare_102 (by decide) ?_
    refine lv_iconst (v := 0) hx hb dX0_prepare_103 (by decide) ?_
    refine lv_iconst (v := 0) hx hb dX0_prepare_104 (by decide) ?_
    obtain ⟨w24, w25, hr23, h⟩ := ob2_out h
    refine rw_v (WN := fun u26 => [((a_p1 3), .inl (g.2.2.1 0, 31, .inl p1_rows)), ((a_p1 4), .inl (g.2.2.1 0, 31, .inl p1_sizes)), ((a_p1 5), .inl (g.2.2.1 0, 31, .inl p1_rooms)), ((a_t 0), .inr (0, [.ref b_t_rows, .ref b_t_seen, .int w25, .int t_ready, .int t_pool, .int t_plies, .int t_room])), (b_t_rows, .inl (g.2.2.1 1, t_rows_n, .inr (.inl w24))), ((a_p1 0), .inr (1, [.ref (a_p1 1), .ref (a_p1 2), .ref (a_p1 3), .ref (a_p1 4), .ref (a_p1 5), .int p1_told, .int p1_lines, .int p1_kinds, .int p1_acts])), ((a_p1 2), .inl (g.2.2.1 0, 144, .inl p1_cells))]) (wr := [((a_p1 3), .inl (g.2.2.1 0, 31, .inl p1_rows)), ((a_p1 4), .inl (g.2.2.1 0, 31, .inl p1_sizes)), ((a_p1 5), .inl (g.2.2.1 0, 31, .inl p1_rooms))]) (runV (As := [.ref ((a_p1 0)), .int (0), .int (0), .int (0), .int (0), .int (0), .int (0)]) (rest := []) cx hl.1 (ctX0_lay l g RD H.size a_t b_t_rows b_t_seen a_p1 t_size t_ready t_pool t_plies t_room t_rows_n t_rows p1_told p1_lines p1_kinds p1_acts p1_cells (0) (0) (0) (0) (0) (0) w24 w25 hr23) kmX0_lay kvX0_lay lm_X0_55 ⟨rfl, rfl⟩ ⟨Nat.le_of_ble_eq_true rfl, Nat.le_of_ble_eq_true rfl⟩ (rwV (q0 := 0) (ci := 0) hG (hP.sub [0, 1, 2, 3] rfl) (hD.sub [0, 1, 2, 3] (by decide) rfl) hAb hb0 hS hP rfl rfl) rfl rfl (Nat.le_of_ble_eq_true rfl) dX0_prepare_105 ⟨Nat.le_of_ble_eq_true rfl, (show (lim0 + 0 : Nat) ≤ lim0 by omega)⟩) hP hD hS hA [0, 1, 2, 3] [4, 5, 6] rfl rfl (by decide) (by decide) (fun _ => rfl) (fun u26 H locs hP hD hS => ?_)
    have hG := hGk hS
    refine lv_aload_n hx hb dX0_prepare_108 rfl (lv_at hl 0 rfl) ?_
    refine lv_iconst (v := 1) hx hb dX0_prepare_109 (by decide) ?_
    refine xw_put (C := RX0) (T := TX0) (N := 7) (ty := .boolean) (v := .int (1)) (ws' := [((a_p1 3), .inl (g.2.2.1 0, 31, .inl p1_rows)), ((a_p1 4), .inl (g.2.2.1 0, 31, .inl p1_sizes)), ((a_p1 5), .inl (g.2.2.1 0, 31, .inl p1_rooms)), ((a_t 0), .inr (0, [.ref b_t_rows, .ref b_t_seen, .int w25, .int 1, .int t_pool, .int t_plies, .int t_room])), (b_t_rows, .inl (g.2.2.1 1, t_rows_n, .inr (.inl w24))), ((a_p1 0), .inr (1, [.ref (a_p1 1), .ref (a_p1 2), .ref (a_p1 3), .ref (a_p1 4), .ref (a_p1 5), .int p1_told, .int p1_lines, .int p1_kinds, .int p1_acts])), ((a_p1 2), .inl (g.2.2.1 0, 144, .inl p1_cells))]) cx hG hP hD hS 3 rfl rfl uX0 tyX0 tyX0_ok nmX0 3 (by decide) lf_X0_18 rfl (by decide +kernel) rfl rfl (Nat.le_of_ble_eq_true rfl) rfl dX0_prepare_110 (fun H locs hP hD hS => ?_)
    have hG := hGk hS
    cases h
    exact hret (fun _ => b_t_rows) _ _ _ _ dX0_prepare_113 (hP.sub [3, 4, 5, 6, 0, 1, 2] rfl) (hD.sub [3, 4, 5, 6, 0, 1, 2] (by decide) rfl) hS
  have w50 : ∀ (t_rows_n : Nat) (t_rows : Nat → Int64) (t_size : Int32) (t_ready : Int32) (t_pool : Int32) (t_plies : Int32) (t_room : Int32) (b_t_rows : Nat) (v2 : Int32) (H : Heap) (locs : List Loc), va_P g.2.1 vwCl [((a_t 0), .inr (0, [.ref b_t_rows, .ref b_t_seen, .int t_size, .int t_ready, .int t_pool, .int t_plies, .int t_room])), (b_t_rows, .inl (g.2.2.1 1, t_rows_n, .inr (.inl t_rows))), ((a_p1 0), .inr (1, [.ref (a_p1 1), .ref (a_p1 2), .ref (a_p1 3), .ref (a_p1 4), .ref (a_p1 5), .int p1_told, .int p1_lines, .int p1_kinds, .int p1_acts])), ((a_p1 2), .inl (g.2.2.1 0, 144, .inl p1_cells)), ((a_p1 3), .inl (g.2.2.1 0, 31, .inl p1_rows)), ((a_p1 4), .inl (g.2.2.1 0, 31, .inl p1_sizes)), ((a_p1 5), .inl (g.2.2.1 0, 31, .inl p1_rooms))] H → va_D A [((a_t 0), .inr (0, [.ref b_t_rows, .ref b_t_seen, .int t_size, .int t_ready, .int t_pool, .int t_plies, .int t_room])), (b_t_rows, .inl (g.2.2.1 1, t_rows_n, .inr (.inl t_rows))), ((a_p1 0), .inr (1, [.ref (a_p1 1), .ref (a_p1 2), .ref (a_p1 3), .ref (a_p1 4), .ref (a_p1 5), .int p1_told, .int p1_lines, .int p1_kinds, .int p1_acts])), ((a_p1 2), .inl (g.2.2.1 0, 144, .inl p1_cells)), ((a_p1 3), .inl (g.2.2.1 0, 31, .inl p1_rows)), ((a_p1 4), .inl (g.2.2.1 0, 31, .inl p1_sizes)), ((a_p1 5), .inl (g.2.2.1 0, 31, .inl p1_rooms))] → va_S A s.heap H locs → ∀ (ls : Array Slot), lv_has ls 4 [(0, .ref ((a_t 0))), (1, .ref ((a_p1 0))), (2, .int v2)] → fX0_prepare_50 lim0  t_rows_n t_rows t_size t_ready t_pool t_plies t_room p1_cells p1_sizes p1_rooms p1_acts v2 = some (o_t_rows_n, o_t_rows, o_t_size, o_t_ready, o_t_pool, o_t_plies, o_t_room) → W p l e ⟨15, 1, lim0, 497⟩ s m args below meth c H locs 0 0 Q (F0 m 50 ls []) := by
    intro t_rows_n t_rows t_size t_ready t_pool t_plies t_room b_t_rows v2 H locs hP hD hS ls hl h
    unfold fX0_prepare_50 at h
    have hG := hGk hS
    refine lv_aload_n hx hb dX0_prepare_50 rfl (lv_at hl 0 rfl) ?_
    refine lv_iload_n hx hb dX0_prepare_51 rfl (lv_at hl 2 rfl) ?_
    refine xw_put (C := RX0) (T := TX0) (N := 7) (ty := .int) (v := .int v2) (ws' := [((a_t 0), .inr (0, [.ref b_t_rows, .ref b_t_seen, .int t_size, .int t_ready, .int v2, .int t_plies, .int t_room])), (b_t_rows, .inl (g.2.2.1 1, t_rows_n, .inr (.inl t_rows))), ((a_p1 0), .inr (1, [.ref (a_p1 1), .ref (a_p1 2), .ref (a_p1 3), .ref (a_p1 4), .ref (a_p1 5), .int p1_told, .int p1_lines, .int p1_kinds, .int p1_acts])), ((a_p1 2), .inl (g.2.2.1 0, 144, .inl p1_cells)), ((a_p1 3), .inl (g.2.2.1 0, 31, .inl p1_rows)), ((a_p1 4), .inl (g.2.2.1 0, 31, .inl p1_sizes)), ((a_p1 5), .inl (g.2.2.1 0, 31, .inl p1_rooms))]) cx hG hP hD hS 0 rfl rfl uX0 tyX0 tyX0_ok nmX0 4 (by decide) lf_X0_37 rfl (by decide +kernel) rfl rfl (Nat.le_of_ble_eq_true rfl) rfl dX0_prepare_52 (fun H locs hP hD hS => ?_)
    have hG := hGk hS
    refine lv_aload_n hx hb dX0_prepare_55 rfl (lv_at hl 0 rfl) ?_
    refine lv_aload_n hx hb dX0_prepare_56 rfl (lv_at hl 1 rfl) ?_
    obtain ⟨r15, hr16, h⟩ := bnd h
    refine ro_i (runVN (As := []) (rest := [.ref ((a_t 0))]) hG cx hl.1 (ctX1_plies l g a_p1 p1_told p1_lines p1_kinds p1_acts p1_sizes r15 hr16) kmX1_plies kvX1_plies nm_54 ⟨rfl, rfl⟩ ⟨Nat.le_of_ble_eq_true rfl, Nat.le_of_ble_eq_true rfl⟩ (roV (q0 := 2) (ci := 1) hG (hP.sub [2, 5] rfl) hP rfl rfl) rfl rfl (Nat.le_of_ble_eq_true rfl) dX0_prepare_57 ⟨Nat.le_of_ble_eq_true rfl, (show (0 + 0 : Nat) ≤ lim0 by omega)⟩) ?_
    refine xw_put (C := RX0) (T := TX0) (N := 7) (ty := .int) (v := .int r15) (ws' := [((a_t 0), .inr (0, [.ref b_t_rows, .ref b_t_seen, .int t_size, .int t_ready, .int v2, .int r15, .int t_room])), (b_t_rows, .inl (g.2.2.1 1, t_rows_n, .inr (.inl t_rows))), ((a_p1 0), .inr (1, [.ref (a_p1 1), .ref (a_p1 2), .ref (a_p1 3), .ref (a_p1 4), .ref (a_p1 5), .int p1_told, .int p1_lines, .int p1_kinds, .int p1_acts])), ((a_p1 2), .inl (g.2.2.1 0, 144, .inl p1_cells)), ((a_p1 3), .inl (g.2.2.1 0, 31, .inl p1_rows)), ((a_p1 4), .inl (g.2.2.1 0, 31, .inl p1_sizes)), ((a_p1 5), .inl (g.2.2.1 0, 31, .inl p1_rooms))]) cx hG hP hD hS 0 rfl rfl uX0 tyX0 tyX0_ok nmX0 5 (by decide) lf_X0_41 rfl (by decide +kernel) rfl rfl (Nat.le_of_ble_eq_true rfl) rfl dX0_prepare_60 (fun H locs hP hD hS => ?_)
    have hG := hGk hS
    refine lv_aload_n hx hb dX0_prepare_63 rfl (lv_at hl 0 rfl) ?_
    refine lv_aload_n hx hb dX0_prepare_64 rfl (lv_at hl 1 rfl) ?_
    obtain ⟨r17, hr18, h⟩ := bnd h
    refine ro_i (runVN (As := []) (rest := [.ref ((a_t 0))]) hG cx hl.1 (ctX1_roomNow l g a_p1 p1_told p1_lines p1_kinds p1_acts p1_rooms r17 hr18) kmX1_roomNow kvX1_roomNow nm_56 ⟨rfl, rfl⟩ ⟨Nat.le_of_ble_eq_true rfl, Nat.le_of_ble_eq_true rfl⟩ (roV (q0 := 2) (ci := 1) hG (hP.sub [2, 6] rfl) hP rfl rfl) rfl rfl (Nat.le_of_ble_eq_true rfl) dX0_prepare_65 ⟨Nat.le_of_ble_eq_true rfl, (show (0 + 0 : Nat) ≤ lim0 by omega)⟩) ?_
    refine xw_put (C := RX0) (T := TX0) (N := 7) (ty := .int) (v := .int r17) (ws' := [((a_t 0), .inr (0, [.ref b_t_rows, .ref b_t_seen, .int t_size, .int t_ready, .int v2, .int r15, .int r17])), (b_t_rows, .inl (g.2.2.1 1, t_rows_n, .inr (.inl t_rows))), ((a_p1 0), .inr (1, [.ref (a_p1 1), .ref (a_p1 2), .ref (a_p1 3), .ref (a_p1 4), .ref (a_p1 5), .int p1_told, .int p1_lines, .int p1_kinds, .int p1_acts])), ((a_p1 2), .inl (g.2.2.1 0, 144, .inl p1_cells)), ((a_p1 3), .inl (g.2.2.1 0, 31, .inl p1_rows)), ((a_p1 4), .inl (g.2.2.1 0, 31, .inl p1_sizes)), ((a_p1 5), .inl (g.2.2.1 0, 31, .inl p1_rooms))]) cx hG hP hD hS 0 rfl rfl uX0 tyX0 tyX0_ok nmX0 6 (by decide) lf_X0_43 rfl (by decide +kernel) rfl rfl (Nat.le_of_ble_eq_true rfl) rfl dX0_prepare_68 (fun H locs hP hD hS => ?_)
    have hG := hGk hS
    refine lv_aload_n hx hb dX0_prepare_71 rfl (lv_at hl 0 rfl) ?_
    refine lv_iconst (v := 0) hx hb dX0_prepare_72 (by decide) ?_
    refine xw_put (C := RX0) (T := TX0) (N := 7) (ty := .int) (v := .int (0)) (ws' := [((a_t 0), .inr (0, [.ref b_t_rows, .ref b_t_seen, .int 0, .int t_ready, .int v2, .int r15, .int r17])), (b_t_rows, .inl (g.2.2.1 1, t_rows_n, .inr (.inl t_rows))), ((a_p1 0), .inr (1, [.ref (a_p1 1), .ref (a_p1 2), .ref (a_p1 3), .ref (a_p1 4), .ref (a_p1 5), .int p1_told, .int p1_lines, .int p1_kinds, .int p1_acts])), ((a_p1 2), .inl (g.2.2.1 0, 144, .inl p1_cells)), ((a_p1 3), .inl (g.2.2.1 0, 31, .inl p1_rows)), ((a_p1 4), .inl (g.2.2.1 0, 31, .inl p1_sizes)), ((a_p1 5), .inl (g.2.2.1 0, 31, .inl p1_rooms))]) cx hG hP hD hS 0 rfl rfl uX0 tyX0 tyX0_ok nmX0 2 (by decide) lf_X0_49 rfl (by decide +kernel) rfl rfl (Nat.le_of_ble_eq_true rfl) rfl dX0_prepare_73 (fun H locs hP hD hS => ?_)
    have hG := hGk hS
    refine lv_aload_n hx hb dX0_prepare_76 rfl (lv_at hl 0 rfl) ?_
    obtain ⟨r19, hr20, h⟩ := bnd h
    refine ro_i (runV (As := []) (rest := []) cx hl.1 (ctX0_mostRows l g a_t b_t_rows b_t_seen (0) t_ready v2 r15 r17 r19 hr20) kmX0_mostRows kvX0_mostRows lm_X0_52 ⟨rfl, rfl⟩ ⟨Nat.le_of_ble_eq_true rfl, Nat.le_of_ble_eq_true rfl⟩ (roV (q0 := 0) (ci := 0) hG (hP.sub [0] rfl) hP rfl rfl) rfl rfl (Nat.le_of_ble_eq_true rfl) dX0_prepare_77 ⟨Nat.le_of_ble_eq_true rfl, (show (0 + 0 : Nat) ≤ lim0 by omega)⟩) ?_
    refine lv_istore_n (lv' := [(3, .int r19), (0, .ref ((a_t 0))), (1, .ref ((a_p1 0))), (2, .int v2)]) hx hb dX0_prepare_80 rfl hl (by decide) rfl (fun ls hl => ?_)
    refine lv_aload_n hx hb dX0_prepare_81 rfl (lv_at hl 1 rfl) ?_
    refine xa_get (C := RX0) (T := TX0) (N := 7) cx hG hP 0 rfl rfl uX0 0 (by decide) lf_X0_9 rfl dX0_prepare_82 ?_
    refine xa_len cx hG hP 1 rfl 1 rfl (v := nI t_rows_n) rfl dX0_prepare_85 ?_
    refine lv_iload_n hx hb dX0_prepare_86 rfl (lv_at hl 0 rfl) ?_
    refine lv_icmp_ge (tgt := 97) hx hb dX0_prepare_87 (by decide) (fun c21 => ?_) (fun c21 => ?_)
    · have h := itp c21 h
      refine W.widen (k := 1) (n := lim0) (Nat.le_of_ble_eq_true rfl) (show (0 : Nat) ≤ lim0 by omega) ?_
      exact w97 t_rows_n t_rows 0 t_ready v2 r15 r17 b_t_rows _ _ hP hD hS _ (lv_sub hl [1, 2] rfl) h
    · have h := itn c21 h
      refine lv_aload_n hx hb dX0_prepare_90 rfl (lv_at hl 1 rfl) ?_
      refine lv_iload_n hx hb dX0_prepare_91 rfl (lv_at hl 0 rfl) ?_
      obtain ⟨hn22, h⟩ := nn_out h
      refine xw_newl (N' := r19.toNatClampNeg) cx hG hP hD hS hA arJ hn22.1 rfl hn22.2.2 (Nat.le_of_ble_eq_true rfl) (show 0 + r19.toNatClampNeg ≤ lim0 by have := hn22.2.1; omega) dX0_prepare_92 (fun q_n92 H hP hD hS => ?_)
      have hP : va_P g.2.1 vwCl [((a_t 0), .inr (0, [.ref b_t_rows, .ref b_t_seen, .int 0, .int t_ready, .int v2, .int r15, .int r17])), (b_t_rows, .inl (g.2.2.1 1, t_rows_n, .inr (.inl t_rows))), ((a_p1 0), .inr (1, [.ref (a_p1 1), .ref (a_p1 2), .ref (a_p1 3), .ref (a_p1 4), .ref (a_p1 5), .int p1_told, .int p1_lines, .int p1_kinds, .int p1_acts])), ((a_p1 2), .inl (g.2.2.1 0, 144, .inl p1_cells)), ((a_p1 3), .inl (g.2.2.1 0, 31, .inl p1_rows)), ((a_p1 4), .inl (g.2.2.1 0, 31, .inl p1_sizes)), ((a_p1 5), .inl (g.2.2.1 0, 31, .inl p1_rooms)), (q_n92, .inl (g.2.2.1 1, r19.toNatClampNeg, .inr (.inl (fun _ => 0))))] H := hP
      have hD : va_D A [((a_t 0), .inr (0, [.ref b_t_rows, .ref b_t_seen, .int 0, .int t_ready, .int v2, .int r15, .int r17])), (b_t_rows, .inl (g.2.2.1 1, t_rows_n, .inr (.inl t_rows))), ((a_p1 0), .inr (1, [.ref (a_p1 1), .ref (a_p1 2), .ref (a_p1 3), .ref (a_p1 4), .ref (a_p1 5), .int p1_told, .int p1_lines, .int p1_kinds, .int p1_acts])), ((a_p1 2), .inl (g.2.2.1 0, 144, .inl p1_cells)), ((a_p1 3), .inl (g.2.2.1 0, 31, .inl p1_rows)), ((a_p1 4), .inl (g.2.2.1 0, 31, .inl p1_sizes)), ((a_p1 5), .inl (g.2.2.1 0, 31, .inl p1_rooms)), (q_n92, .inl (g.2.2.1 1, r19.toNatClampNeg, .inr (.inl (fun _ => 0))))] := hD
      have hG := hGk hS
      refine xw_put (C := RX0) (T := TX0) (N := 7) (ty := .array .long) (v := .ref q_n92) (ws' := [((a_t 0), .inr (0, [.ref q_n92, .ref b_t_seen, .int 0, .int t_ready, .int v2, .int r15, .int r17])), (b_t_rows, .inl (g.2.2.1 1, t_rows_n, .inr (.inl t_rows))), ((a_p1 0), .inr (1, [.ref (a_p1 1), .ref (a_p1 2), .ref (a_p1 3), .ref (a_p1 4), .ref (a_p1 5), .int p1_told, .int p1_lines, .int p1_kinds, .int p1_acts])), ((a_p1 2), .inl (g.2.2.1 0, 144, .inl p1_cells)), ((a_p1 3), .inl (g.2.2.1 0, 31, .inl p1_rows)), ((a_p1 4), .inl (g.2.2.1 0, 31, .inl p1_sizes)), ((a_p1 5), .inl (g.2.2.1 0, 31, .inl p1_rooms)), (q_n92, .inl (g.2.2.1 1, r19.toNatClampNeg, .inr (.inl (fun _ => 0))))]) cx hG hP hD hS 0 rfl rfl uX0 tyX0 tyX0_ok nmX0 0 (by decide) lf_X0_9 rfl (by decide +kernel) rfl rfl (Nat.le_of_ble_eq_true rfl) rfl dX0_prepare_94 (fun H locs hP hD hS => ?_)
      have hP := hP.sub (ws' := [((a_t 0), .inr (0, [.ref q_n92, .ref b_t_seen, .int 0, .int t_ready, .int v2, .int r15, .int r17])), (q_n92, .inl (g.2.2.1 1, r19.toNatClampNeg, .inr (.inl (fun _ => 0)))), ((a_p1 0), .inr (1, [.ref (a_p1 1), .ref (a_p1 2), .ref (a_p1 3), .ref (a_p1 4), .ref (a_p1 5), .int p1_told, .int p1_lines, .int p1_kinds, .int p1_acts])), ((a_p1 2), .inl (g.2.2.1 0, 144, .inl p1_cells)), ((a_p1 3), .inl (g.2.2.1 0, 31, .inl p1_rows)), ((a_p1 4), .inl (g.2.2.1 0, 31, .inl p1_sizes)), ((a_p1 5), .inl (g.2.2.1 0, 31, .inl p1_rooms))]) [0, 7, 2, 3, 4, 5, 6] rfl
      have hD := hD.sub (ws' := [((a_t 0), .inr (0, [.ref q_n92, .ref b_t_seen, .int 0, .int t_ready, .int v2, .int r15, .int r17])), (q_n92, .inl (g.2.2.1 1, r19.toNatClampNeg, .inr (.inl (fun _ => 0)))), ((a_p1 0), .inr (1, [.ref (a_p1 1), .ref (a_p1 2), .ref (a_p1 3), .ref (a_p1 4), .ref (a_p1 5), .int p1_told, .int p1_lines, .int p1_kinds, .int p1_acts])), ((a_p1 2), .inl (g.2.2.1 0, 144, .inl p1_cells)), ((a_p1 3), .inl (g.2.2.1 0, 31, .inl p1_rows)), ((a_p1 4), .inl (g.2.2.1 0, 31, .inl p1_sizes)), ((a_p1 5), .inl (g.2.2.1 0, 31, .inl p1_rooms))]) [0, 7, 2, 3, 4, 5, 6] (by decide) rfl
      have hG := hGk hS
      refine W.widen (k := 1) (n := lim0) (Nat.le_of_ble_eq_true rfl) (show (0 + r19.toNatClampNeg : Nat) ≤ lim0 by omega) ?_
      exact w97 r19.toNatClampNeg (fun _ => 0) 0 t_ready v2 r15 r17 q_n92 _ _ hP hD hS _ (lv_sub hl [1, 2] rfl) h
  unfold fX0_prepare at h
  refine lv_aload_n hx hb dX0_prepare_0 rfl (lv_at hl 1 rfl) ?_
  obtain ⟨r1, hr2, h⟩ := bnd h
  refine ro_i (runVN (As := []) (rest := []) hG cx hl.1 (ctX1_row l g a_p1 p1_told p1_lines p1_kinds p1_acts p1_rows r1 hr2) kmX1_row kvX1_row nm_53 ⟨rfl, rfl⟩ ⟨Nat.le_of_ble_eq_true rfl, Nat.le_of_ble_eq_true rfl⟩ (roV (q0 := 2) (ci := 1) hG (hP.sub [2, 4] rfl) hP rfl rfl) rfl rfl (Nat.le_of_ble_eq_true rfl) dX0_prepare_1 ⟨Nat.le_of_ble_eq_true rfl, (show (0 + 0 : Nat) ≤ lim0 by omega)⟩) ?_
  refine lv_aload_n hx hb dX0_prepare_4 rfl (lv_at hl 1 rfl) ?_
  obtain ⟨r3, hr4, h⟩ := bnd h
  refine ro_i (runVN (As := []) (rest := [.int r1]) hG cx hl.1 (ctX1_plies l g a_p1 p1_told p1_lines p1_kinds p1_acts p1_sizes r3 hr4) kmX1_plies kvX1_plies nm_54 ⟨rfl, rfl⟩ ⟨Nat.le_of_ble_eq_true rfl, Nat.le_of_ble_eq_true rfl⟩ (roV (q0 := 2) (ci := 1) hG (hP.sub [2, 5] rfl) hP rfl rfl) rfl rfl (Nat.le_of_ble_eq_true rfl) dX0_prepare_5 ⟨Nat.le_of_ble_eq_true rfl, (show (0 + 0 : Nat) ≤ lim0 by omega)⟩) ?_
  obtain ⟨r5, hr6, h⟩ := bnd h
  refine ro_i (runSN (As := [.int r1, .int r3]) (rest := []) hG cx hl.1 (ctX3_sorted l g r1 r3 r5 hr6) kmX3_sorted ksX3_sorted nm_55 ⟨rfl, rfl⟩ ⟨Nat.le_of_ble_eq_true rfl, Nat.le_of_ble_eq_true rfl⟩ (roS hG (hP.sub [] rfl)) rfl rfl (Nat.le_of_ble_eq_true rfl) dX0_prepare_8 ⟨Nat.le_of_ble_eq_true rfl, (show (0 + 0 : Nat) ≤ lim0 by omega)⟩) ?_
  refine lv_istore_n (lv' := [(2, .int r5), (0, .ref ((a_t 0))), (1, .ref ((a_p1 0)))]) hx hb dX0_prepare_11 rfl hl (by decide) rfl (fun ls hl => ?_)
  refine lv_aload_n hx hb dX0_prepare_12 rfl (lv_at hl 1 rfl) ?_
  refine xa_get (C := RX0) (T := TX0) (N := 7) cx hG hP 0 rfl rfl uX0 3 (by decide) lf_X0_18 rfl dX0_prepare_13 ?_
  refine lv_if_eq (tgt := 50) hx hb dX0_prepare_16 (by decide) (fun c7 => ?_) (fun c7 => ?_)
  · have h := itp c7 h
    exact w50 t_rows_n t_rows t_size t_ready t_pool t_plies t_room b_t_rows r5 _ _ hP hD hS _ (lv_sub hl [1, 2, 0] rfl) h
  · have h := itn c7 h
    refine lv_aload_n hx hb dX0_prepare_19 rfl (lv_at hl 1 rfl) ?_
    refine xa_get (C := RX0) (T := TX0) (N := 7) cx hG hP 0 rfl rfl uX0 4 (by decide) lf_X0_37 rfl dX0_prepare_20 ?_
    refine lv_iload_n hx hb dX0_prepare_23 rfl (lv_at hl 0 rfl) ?_
    refine lv_icmp_ne (tgt := 50) hx hb dX0_prepare_24 (by decide) (fun c8 => ?_) (fun c8 => ?_)
    · have h := itn c8 h
      exact w50 t_rows_n t_rows t_size t_ready t_pool t_plies t_room b_t_rows r5 _ _ hP hD hS _ (lv_sub hl [1, 2, 0] rfl) h
    · have h := itp c8 h
      refine lv_aload_n hx hb dX0_prepare_27 rfl (lv_at hl 1 rfl) ?_
      refine xa_get (C := RX0) (T := TX0) (N := 7) cx hG hP 0 rfl rfl uX0 5 (by decide) lf_X0_41 rfl dX0_prepare_28 ?_
      refine lv_aload_n hx hb dX0_prepare_31 rfl (lv_at hl 2 rfl) ?_
      obtain ⟨r9, hr10, h⟩ := bnd h
      refine ro_i (runVN (As := []) (rest := [.int t_plies]) hG cx hl.1 (ctX1_plies l g a_p1 p1_told p1_lines p1_kinds p1_acts p1_sizes r9 hr10) kmX1_plies kvX1_plies nm_54 ⟨rfl, rfl⟩ ⟨Nat.le_of_ble_eq_true rfl, Nat.le_of_ble_eq_true rfl⟩ (roV (q0 := 2) (ci := 1) hG (hP.sub [2, 5] rfl) hP rfl rfl) rfl rfl (Nat.le_of_ble_eq_true rfl) dX0_prepare_32 ⟨Nat.le_of_ble_eq_true rfl, (show (0 + 0 : Nat) ≤ lim0 by omega)⟩) ?_
      refine lv_icmp_ne (tgt := 50) hx hb dX0_prepare_35 (by decide) (fun c11 => ?_) (fun c11 => ?_)
      · have h := itn c11 h
        exact w50 t_rows_n t_rows t_size t_ready t_pool t_plies t_room b_t_rows r5 _ _ hP hD hS _ (lv_sub hl [1, 2, 0] rfl) h
      · have h := itp c11 h
        refine lv_aload_n hx hb dX0_prepare_38 rfl (lv_at hl 1 rfl) ?_
        refine xa_get (C := RX0) (T := TX0) (N := 7) cx hG hP 0 rfl rfl uX0 6 (by decide) lf_X0_43 rfl dX0_prepare_39 ?_
        refine lv_aload_n hx hb dX0_prepare_42 rfl (lv_at hl 2 rfl) ?_
        obtain ⟨r12, hr13, h⟩ := bnd h
        refine ro_i (runVN (As := []) (rest := [.int t_room]) hG cx hl.1 (ctX1_roomNow l g a_p1 p1_told p1_lines p1_kinds p1_acts p1_rooms r12 hr13) kmX1_roomNow kvX1_roomNow nm_56 ⟨rfl, rfl⟩ ⟨Nat.le_of_ble_eq_true rfl, Nat.le_of_ble_eq_true rfl⟩ (roV (q0 := 2) (ci := 1) hG (hP.sub [2, 6] rfl) hP rfl rfl) rfl rfl (Nat.le_of_ble_eq_true rfl) dX0_prepare_43 ⟨Nat.le_of_ble_eq_true rfl, (show (0 + 0 : Nat) ≤ lim0 by omega)⟩) ?_
        refine lv_icmp_ne (tgt := 50) hx hb dX0_prepare_46 (by decide) (fun c14 => ?_) (fun c14 => ?_)
        · have h := itn c14 h
          exact w50 t_rows_n t_rows t_size t_ready t_pool t_plies t_room b_t_rows r5 _ _ hP hD hS _ (lv_sub hl [1, 2, 0] rfl) h
        · have h := itp c14 h
          refine W.widen (k := 1) (n := lim0) (Nat.le_of_ble_eq_true rfl) (show (0 : Nat) ≤ lim0 by omega) ?_
          cases h
          exact hret (fun _ => b_t_rows) _ _ _ _ dX0_prepare_49 (hP.sub [0, 1, 2, 3, 4, 5, 6] rfl) (hD.sub [0, 1, 2, 3, 4, 5, 6] (by decide) rfl) hS
-- X0_isAmong
theorem dX0_isAmong_0 : decode cX0_isAmong 0 = .ok (.iload_n 2, 1) := by decide +kernel
theorem dX0_isAmong_1 : decode cX0_isAmong 1 = .ok (.ifCond .lt 32, 3) := by decide +kernel
theorem dX0_isAmong_4 : decode cX0_isAmong 4 = .ok (.iload_n 2, 1) := by decide +kernel
theorem dX0_isAmong_5 : decode cX0_isAmong 5 = .ok (.aload_n 0, 1) := by decide +kernel
theorem dX0_isAmong_6 : decode cX0_isAmong 6 = .ok (.getfield 9, 3) := by decide +kernel
theorem dX0_isAmong_9 : decode cX0_isAmong 9 = .ok (.arraylength, 1) := by decide +kernel
theorem dX0_isAmong_10 : decode cX0_isAmong 10 = .ok (.if_icmp .ge 23, 3) := by decide +kernel
theorem dX0_isAmong_13 : decode cX0_isAmong 13 = .ok (.aload_n 0, 1) := by decide +kernel
theorem dX0_isAmong_14 : decode cX0_isAmong 14 = .ok (.getfield 9, 3) := by decide +kernel
theorem dX0_isAmong_17 : decode cX0_isAmong 17 = .ok (.iload_n 2, 1) := by decide +kernel
theorem dX0_isAmong_18 : decode cX0_isAmong 18 = .ok (.laload, 1) := by decide +kernel
theorem dX0_isAmong_19 : decode cX0_isAmong 19 = .ok (.bipush 32, 2) := by decide +kernel
theorem dX0_isAmong_21 : decode cX0_isAmong 21 = .ok (.lushr, 1) := by decide +kernel
theorem dX0_isAmong_22 : decode cX0_isAmong 22 = .ok (.l2i, 1) := by decide +kernel
theorem dX0_isAmong_23 : decode cX0_isAmong 23 = .ok (.iload_n 1, 1) := by decide +kernel
theorem dX0_isAmong_24 : decode cX0_isAmong 24 = .ok (.iand, 1) := by decide +kernel
theorem dX0_isAmong_25 : decode cX0_isAmong 25 = .ok (.iload_n 1, 1) := by decide +kernel
theorem dX0_isAmong_26 : decode cX0_isAmong 26 = .ok (.if_icmp .ne 7, 3) := by decide +kernel
theorem dX0_isAmong_29 : decode cX0_isAmong 29 = .ok (.iconst 1, 1) := by decide +kernel
theorem dX0_isAmong_30 : decode cX0_isAmong 30 = .ok (.goto 4, 3) := by decide +kernel
theorem dX0_isAmong_33 : decode cX0_isAmong 33 = .ok (.iconst 0, 1) := by decide +kernel
theorem dX0_isAmong_34 : decode cX0_isAmong 34 = .ok (.ireturn, 1) := by decide +kernel
noncomputable def fX0_isAmong  (t_rows_n : Nat) (t_rows : Nat → Int64) (v1 : Int32) (v2 : Int32) : Option (Int32) := (if v2 < 0 then some (0) else (if (nI t_rows_n) ≤ v2 then some (0) else chk t_rows_n v2 ((if (((lushr (t_rows v2.toNatClampNeg) 32).toInt32) &&& v1) = v1 then some (1) else some (0)))))
set_option maxHeartbeats 4000000 in
set_option maxRecDepth 100000 in
theorem ctX0_isAmong (l : Launch) (g : GT) (a_t : Nat → Nat) (b_t_rows : Nat) (b_t_seen : Nat) (t_size : Int32) (t_ready : Int32) (t_pool : Int32) (t_plies : Int32) (t_room : Int32) (t_rows_n : Nat) (t_rows : Nat → Int64) (v1 : Int32) (v2 : Int32) (o : Int32) (h : fX0_isAmong t_rows_n t_rows v1 v2 = some o) : Met l yX0_isAmong (Cond.code yX0_isAmong cX0_isAmong 3 (some .boolean) :: Tw) ⟨0, 0, 0, 0⟩ (va_Pc [.ref ((a_t 0)), .int v1, .int v2] (roB g [((a_t 0), .inr (0, [.ref b_t_rows, .ref b_t_seen, .int t_size, .int t_ready, .int t_pool, .int t_plies, .int t_room])), (b_t_rows, .inl (g.2.2.1 1, t_rows_n, .inr (.inl t_rows)))])) (vp_Si (fun x => x = o ∧ (x = 0 ∨ x = 1))) 0 0 (fun _ => False) := by
  refine ro_metz (by decide) (Nat.le_of_ble_eq_true rfl) (lv0 := [(0, .ref ((a_t 0))), (1, .int v1), (2, .int v2)]) rfl ?_
  intro p e s m args below meth c ls Q cx hret hG hP hl
  have hx := cx.1
  have hb := cx.2.1
  have hG0 := hG
  unfold fX0_isAmong at h
  refine lv_iload_n hx hb dX0_isAmong_0 rfl (lv_at hl 2 rfl) ?_
  refine lv_if_lt (tgt := 33) hx hb dX0_isAmong_1 (by decide) (fun c1 => ?_) (fun c1 => ?_)
  · have h := itp c1 h
    refine lv_iconst (v := 0) hx hb dX0_isAmong_33 (by decide) ?_
    exact hret _ _ _ dX0_isAmong_34 (by decide) (Option.some.inj h)
  · have h := itn c1 h
    refine lv_iload_n hx hb dX0_isAmong_4 rfl (lv_at hl 2 rfl) ?_
    refine lv_aload_n hx hb dX0_isAmong_5 rfl (lv_at hl 0 rfl) ?_
    refine xa_get (C := RX0) (T := TX0) (N := 7) cx hG hP 0 rfl rfl uX0 0 (by decide) lf_X0_9 rfl dX0_isAmong_6 ?_
    refine xa_len cx hG hP 1 rfl 1 rfl (v := nI t_rows_n) rfl dX0_isAmong_9 ?_
    refine lv_icmp_ge (tgt := 33) hx hb dX0_isAmong_10 (by decide) (fun c2 => ?_) (fun c2 => ?_)
    · have h := itp c2 h
      refine lv_iconst (v := 0) hx hb dX0_isAmong_33 (by decide) ?_
      exact hret _ _ _ dX0_isAmong_34 (by decide) (Option.some.inj h)
    · have h := itn c2 h
      refine lv_aload_n hx hb dX0_isAmong_13 rfl (lv_at hl 0 rfl) ?_
      refine xa_get (C := RX0) (T := TX0) (N := 7) cx hG hP 0 rfl rfl uX0 0 (by decide) lf_X0_9 rfl dX0_isAmong_14 ?_
      refine lv_iload_n hx hb dX0_isAmong_17 rfl (lv_at hl 2 rfl) ?_
      obtain ⟨hi3, h⟩ := chk_out h
      refine xa_lald cx hG hP 1 rfl hi3 rfl dX0_isAmong_18 ?_
      refine lv_bipush (v := 32) hx hb dX0_isAmong_19 (by decide) ?_
      refine lv_lushr (v := lushr (t_rows v2.toNatClampNeg) 32) hx hb dX0_isAmong_21 rfl ?_
      refine lv_l2i (v := (lushr (t_rows v2.toNatClampNeg) 32).toInt32) hx hb dX0_isAmong_22 rfl ?_
      refine lv_iload_n hx hb dX0_isAmong_23 rfl (lv_at hl 1 rfl) ?_
      refine lv_iand hx hb dX0_isAmong_24 ?_
      refine lv_iload_n hx hb dX0_isAmong_25 rfl (lv_at hl 1 rfl) ?_
      refine lv_icmp_ne (tgt := 33) hx hb dX0_isAmong_26 (by decide) (fun c4 => ?_) (fun c4 => ?_)
      · have h := itn c4 h
        refine lv_iconst (v := 0) hx hb dX0_isAmong_33 (by decide) ?_
        exact hret _ _ _ dX0_isAmong_34 (by decide) (Option.some.inj h)
      · have h := itp c4 h
        refine lv_iconst (v := 1) hx hb dX0_isAmong_29 (by decide) ?_
        refine lv_goto (tgt := 34) hx hb dX0_isAmong_30 (by decide) ?_
        exact hret _ _ _ dX0_isAmong_34 (by decide) (Option.some.inj h)
-- X0_placeAt
theorem dX0_placeAt_0 : decode cX0_placeAt 0 = .ok (.iconst 0, 1) := by decide +kernel
theorem dX0_placeAt_1 : decode cX0_placeAt 1 = .ok (.istore_n 3, 1) := by decide +kernel
theorem dX0_placeAt_2 : decode cX0_placeAt 2 = .ok (.iconst 0, 1) := by decide +kernel
theorem dX0_placeAt_3 : decode cX0_placeAt 3 = .ok (.istore 4, 2) := by decide +kernel
theorem dX0_placeAt_5 : decode cX0_placeAt 5 = .ok (.iload 4, 2) := by decide +kernel
theorem dX0_placeAt_7 : decode cX0_placeAt 7 = .ok (.iload_n 2, 1) := by decide +kernel
theorem dX0_placeAt_8 : decode cX0_placeAt 8 = .ok (.if_icmp .ge 22, 3) := by decide +kernel
theorem dX0_placeAt_11 : decode cX0_placeAt 11 = .ok (.aload_n 0, 1) := by decide +kernel
theorem dX0_placeAt_12 : decode cX0_placeAt 12 = .ok (.iload_n 1, 1) := by decide +kernel
theorem dX0_placeAt_13 : decode cX0_placeAt 13 = .ok (.iload 4, 2) := by decide +kernel
theorem dX0_placeAt_15 : decode cX0_placeAt 15 = .ok (.invokevirtual 98, 3) := by decide +kernel
theorem dX0_placeAt_18 : decode cX0_placeAt 18 = .ok (.ifCond .eq 6, 3) := by decide +kernel
theorem dX0_placeAt_21 : decode cX0_placeAt 21 = .ok (.iinc 3 1, 3) := by decide +kernel
theorem dX0_placeAt_24 : decode cX0_placeAt 24 = .ok (.iinc 4 1, 3) := by decide +kernel
theorem dX0_placeAt_27 : decode cX0_placeAt 27 = .ok (.goto (-22), 3) := by decide +kernel
theorem dX0_placeAt_30 : decode cX0_placeAt 30 = .ok (.iload_n 3, 1) := by decide +kernel
theorem dX0_placeAt_31 : decode cX0_placeAt 31 = .ok (.ireturn, 1) := by decide +kernel
noncomputable def fX0_placeAt_24 (k5 : Nat → (Nat → Int64) → Int32 → Int32 → Int32 → Int32 → Option (Int32)) (t_rows_n : Nat) (t_rows : Nat → Int64) (v1 : Int32) (v2 : Int32) (v3 : Int32) (v4 : Int32) : Option (Int32) := k5 t_rows_n t_rows v1 v2 v3 (v4 + 1)
noncomputable def fX0_placeAt_5  : Nat → Nat → (Nat → Int64) → Int32 → Int32 → Int32 → Int32 → Option (Int32)
  | 0, _, _, _, _, _, _ => none
  | n + 1, t_rows_n, t_rows, v1, v2, v3, v4 => (if v2 ≤ v4 then some v3 else (fX0_isAmong t_rows_n t_rows v1 v4).bind fun r2 => (if r2 = 0 then fX0_placeAt_24 (fX0_placeAt_5 n) t_rows_n t_rows v1 v2 v3 v4 else fX0_placeAt_24 (fX0_placeAt_5 n) t_rows_n t_rows v1 v2 (v3 + 1) v4))
theorem fX0_placeAt_5_z  (t_rows_n : Nat) (t_rows : Nat → Int64) (v1 : Int32) (v2 : Int32) (v3 : Int32) (v4 : Int32) : fX0_placeAt_5  0 t_rows_n t_rows v1 v2 v3 v4 = none := rfl
theorem fX0_placeAt_5_s  (n : Nat) (t_rows_n : Nat) (t_rows : Nat → Int64) (v1 : Int32) (v2 : Int32) (v3 : Int32) (v4 : Int32) : fX0_placeAt_5  (n + 1) t_rows_n t_rows v1 v2 v3 v4 = (if v2 ≤ v4 then some v3 else (fX0_isAmong t_rows_n t_rows v1 v4).bind fun r2 => (if r2 = 0 then fX0_placeAt_24 (fX0_placeAt_5 n) t_rows_n t_rows v1 v2 v3 v4 else fX0_placeAt_24 (fX0_placeAt_5 n) t_rows_n t_rows v1 v2 (v3 + 1) v4)) := rfl
noncomputable def fX0_placeAt  (t_rows_n : Nat) (t_rows : Nat → Int64) (v1 : Int32) (v2 : Int32) : Option (Int32) := fX0_placeAt_5 FU t_rows_n t_rows v1 v2 0 0
set_option maxHeartbeats 4000000 in
set_option maxRecDepth 100000 in
theorem ctX0_placeAt (l : Launch) (g : GT) (a_t : Nat → Nat) (b_t_rows : Nat) (b_t_seen : Nat) (t_size : Int32) (t_ready : Int32) (t_pool : Int32) (t_plies : Int32) (t_room : Int32) (t_rows_n : Nat) (t_rows : Nat → Int64) (v1 : Int32) (v2 : Int32) (o : Int32) (h : fX0_placeAt t_rows_n t_rows v1 v2 = some o) : Met l yX0_placeAt (Cond.code yX0_placeAt cX0_placeAt 5 (some .int) :: Tw) ⟨1, 0, 0, 22⟩ (va_Pc [.ref ((a_t 0)), .int v1, .int v2] (roB g [((a_t 0), .inr (0, [.ref b_t_rows, .ref b_t_seen, .int t_size, .int t_ready, .int t_pool, .int t_plies, .int t_room])), (b_t_rows, .inl (g.2.2.1 1, t_rows_n, .inr (.inl t_rows)))])) (vp_Si (fun x => x = o)) 0 0 (fun _ => False) := by
  refine ro_meti (by decide) (Nat.le_of_ble_eq_true rfl) (lv0 := [(0, .ref ((a_t 0))), (1, .int v1), (2, .int v2)]) rfl ?_
  intro p e s m args below meth c ls Q cx hret hG hP hl
  have hx := cx.1
  have hb := cx.2.1
  have hG0 := hG
  have w24 : ∀ (k5 : Nat → (Nat → Int64) → Int32 → Int32 → Int32 → Int32 → Option (Int32)) (hk5 : ∀ (v1 : Int32) (v2 : Int32) (v3 : Int32) (v4 : Int32) (ls : Array Slot), lv_has ls 5 [(0, .ref ((a_t 0))), (1, .int v1), (2, .int v2), (3, .int v3), (4, .int v4)] → k5 t_rows_n t_rows v1 v2 v3 v4 = some o → W p l e ⟨1, 0, 0, 22⟩ s m args below meth c s.heap [] 0 0 Q (F0 m 5 ls [])) (v1 : Int32) (v2 : Int32) (v3 : Int32) (v4 : Int32) (ls : Array Slot), lv_has ls 5 [(0, .ref ((a_t 0))), (1, .int v1), (2, .int v2), (3, .int v3), (4, .int v4)] → fX0_placeAt_24 k5 t_rows_n t_rows v1 v2 v3 v4 = some o → W p l e ⟨1, 0, 0, 22⟩ s m args below meth c s.heap [] 0 0 Q (F0 m 24 ls []) := by
    intro k5 hk5 v1 v2 v3 v4 ls hl h
    unfold fX0_placeAt_24 at h
    refine lv_iinc (v := v4 + 1) (lv' := [(4, .int (v4 + 1)), (0, .ref ((a_t 0))), (1, .int v1), (2, .int v2), (3, .int v3)]) hx hb dX0_placeAt_24 hl (k := 4) rfl rfl (by decide) rfl (fun ls hl => ?_)
    refine lv_goto (tgt := 5) hx hb dX0_placeAt_27 (by decide) ?_
    exact hk5 v1 v2 v3 (v4 + 1) _ (lv_sub hl [1, 2, 3, 4, 0] rfl) h
  have w5 : ∀ (n : Nat) (v1 : Int32) (v2 : Int32) (v3 : Int32) (v4 : Int32) (ls : Array Slot), lv_has ls 5 [(0, .ref ((a_t 0))), (1, .int v1), (2, .int v2), (3, .int v3), (4, .int v4)] → fX0_placeAt_5  n t_rows_n t_rows v1 v2 v3 v4 = some o → W p l e ⟨1, 0, 0, 22⟩ s m args below meth c s.heap [] 0 0 Q (F0 m 5 ls []) := by
    intro n
    induction n with
    | zero => intro v1 v2 v3 v4 ls hl h; cases (fX0_placeAt_5_z  t_rows_n t_rows v1 v2 v3 v4).symm.trans h
    | succ n ih =>
    intro v1 v2 v3 v4 ls hl h
    have h := (fX0_placeAt_5_s  n t_rows_n t_rows v1 v2 v3 v4).symm.trans h
    refine lv_iload hx hb dX0_placeAt_5 (lv_at hl 4 rfl) ?_
    refine lv_iload_n hx hb dX0_placeAt_7 rfl (lv_at hl 2 rfl) ?_
    refine lv_icmp_ge (tgt := 30) hx hb dX0_placeAt_8 (by decide) (fun c1 => ?_) (fun c1 => ?_)
    · have h := itp c1 h
      refine lv_iload_n hx hb dX0_placeAt_30 rfl (lv_at hl 3 rfl) ?_
      exact hret _ _ _ dX0_placeAt_31 (Option.some.inj h)
    · have h := itn c1 h
      refine lv_aload_n hx hb dX0_placeAt_11 rfl (lv_at hl 0 rfl) ?_
      refine lv_iload_n hx hb dX0_placeAt_12 rfl (lv_at hl 1 rfl) ?_
      refine lv_iload hx hb dX0_placeAt_13 (lv_at hl 4 rfl) ?_
      obtain ⟨r2, hr3, h⟩ := bnd h
      refine ro_z (runV (As := [.int v1, .int v4]) (rest := []) cx hl.1 (ctX0_isAmong l g a_t b_t_rows b_t_seen t_size t_ready t_pool t_plies t_room t_rows_n t_rows v1 v4 r2 hr3) kmX0_isAmong kvX0_isAmong lm_X0_98 ⟨rfl, rfl⟩ ⟨Nat.le_of_ble_eq_true rfl, Nat.le_of_ble_eq_true rfl⟩ (roV (q0 := 0) (ci := 0) hG (hP.sub [0, 1] rfl) hP rfl rfl) rfl rfl (Nat.le_of_ble_eq_true rfl) dX0_placeAt_15 ⟨Nat.le_of_ble_eq_true rfl, Nat.le_of_ble_eq_true rfl⟩) (fun hz4 => ?_)
      refine lv_if_eq (tgt := 24) hx hb dX0_placeAt_18 (by decide) (fun c5 => ?_) (fun c5 => ?_)
      · have h := itp c5 h
        exact w24 _ ih v1 v2 v3 v4 _ (lv_sub hl [0, 1, 2, 3, 4] rfl) h
      · have h := itn c5 h
        refine lv_iinc (v := v3 + 1) (lv' := [(3, .int (v3 + 1)), (0, .ref ((a_t 0))), (1, .int v1), (2, .int v2), (4, .int v4)]) hx hb dX0_placeAt_21 hl (k := 3) rfl rfl (by decide) rfl (fun ls hl => ?_)
        exact w24 _ ih v1 v2 (v3 + 1) v4 _ (lv_sub hl [1, 2, 3, 0, 4] rfl) h
  unfold fX0_placeAt at h
  refine lv_iconst (v := 0) hx hb dX0_placeAt_0 (by decide) ?_
  refine lv_istore_n (lv' := [(3, .int (0)), (0, .ref ((a_t 0))), (1, .int v1), (2, .int v2)]) hx hb dX0_placeAt_1 rfl hl (by decide) rfl (fun ls hl => ?_)
  refine lv_iconst (v := 0) hx hb dX0_placeAt_2 (by decide) ?_
  refine lv_istore (lv' := [(4, .int (0)), (3, .int (0)), (0, .ref ((a_t 0))), (1, .int v1), (2, .int v2)]) hx hb dX0_placeAt_3 hl (by decide) rfl (fun ls hl => ?_)
  exact w5 FU v1 v2 0 0 _ (lv_sub hl [2, 3, 4, 1, 0] rfl) h
-- X0_howMany
theorem dX0_howMany_0 : decode cX0_howMany 0 = .ok (.aload_n 0, 1) := by decide +kernel
theorem dX0_howMany_1 : decode cX0_howMany 1 = .ok (.iload_n 1, 1) := by decide +kernel
theorem dX0_howMany_2 : decode cX0_howMany 2 = .ok (.aload_n 0, 1) := by decide +kernel
theorem dX0_howMany_3 : decode cX0_howMany 3 = .ok (.getfield 49, 3) := by decide +kernel
theorem dX0_howMany_6 : decode cX0_howMany 6 = .ok (.invokevirtual 95, 3) := by decide +kernel
theorem dX0_howMany_9 : decode cX0_howMany 9 = .ok (.ireturn, 1) := by decide +kernel
noncomputable def fX0_howMany  (t_rows_n : Nat) (t_rows : Nat → Int64) (t_size : Int32) (v1 : Int32) : Option (Int32) := (fX0_placeAt t_rows_n t_rows v1 t_size).bind fun r1 => some r1
set_option maxHeartbeats 4000000 in
set_option maxRecDepth 100000 in
theorem ctX0_howMany (l : Launch) (g : GT) (a_t : Nat → Nat) (b_t_rows : Nat) (b_t_seen : Nat) (t_size : Int32) (t_ready : Int32) (t_pool : Int32) (t_plies : Int32) (t_room : Int32) (t_rows_n : Nat) (t_rows : Nat → Int64) (v1 : Int32) (o : Int32) (h : fX0_howMany t_rows_n t_rows t_size v1 = some o) : Met l yX0_howMany (Cond.code yX0_howMany cX0_howMany 2 (some .int) :: Tw) ⟨2, 0, 0, 46⟩ (va_Pc [.ref ((a_t 0)), .int v1] (roB g [((a_t 0), .inr (0, [.ref b_t_rows, .ref b_t_seen, .int t_size, .int t_ready, .int t_pool, .int t_plies, .int t_room])), (b_t_rows, .inl (g.2.2.1 1, t_rows_n, .inr (.inl t_rows)))])) (vp_Si (fun x => x = o)) 0 0 (fun _ => False) := by
  refine ro_meti (by decide) (Nat.le_of_ble_eq_true rfl) (lv0 := [(0, .ref ((a_t 0))), (1, .int v1)]) rfl ?_
  intro p e s m args below meth c ls Q cx hret hG hP hl
  have hx := cx.1
  have hb := cx.2.1
  have hG0 := hG
  unfold fX0_howMany at h
  refine lv_aload_n hx hb dX0_howMany_0 rfl (lv_at hl 0 rfl) ?_
  refine lv_iload_n hx hb dX0_howMany_1 rfl (lv_at hl 1 rfl) ?_
  refine lv_aload_n hx hb dX0_howMany_2 rfl (lv_at hl 0 rfl) ?_
  refine xa_get (C := RX0) (T := TX0) (N := 7) cx hG hP 0 rfl rfl uX0 2 (by decide) lf_X0_49 rfl dX0_howMany_3 ?_
  obtain ⟨r1, hr2, h⟩ := bnd h
  refine ro_i (runV (As := [.int v1, .int t_size]) (rest := []) cx hl.1 (ctX0_placeAt l g a_t b_t_rows b_t_seen t_size t_ready t_pool t_plies t_room t_rows_n t_rows v1 t_size r1 hr2) kmX0_placeAt kvX0_placeAt lm_X0_95 ⟨rfl, rfl⟩ ⟨Nat.le_of_ble_eq_true rfl, Nat.le_of_ble_eq_true rfl⟩ (roV (q0 := 0) (ci := 0) hG (hP.sub [0, 1] rfl) hP rfl rfl) rfl rfl (Nat.le_of_ble_eq_true rfl) dX0_howMany_6 ⟨Nat.le_of_ble_eq_true rfl, Nat.le_of_ble_eq_true rfl⟩) ?_
  exact hret _ _ _ dX0_howMany_9 (Option.some.inj h)
-- X7_orders
theorem dX7_orders_0 : decode cX7_orders 0 = .ok (.aload_n 0, 1) := by decide +kernel
theorem dX7_orders_1 : decode cX7_orders 1 = .ok (.iload_n 1, 1) := by decide +kernel
theorem dX7_orders_2 : decode cX7_orders 2 = .ok (.invokevirtual 239, 3) := by decide +kernel
theorem dX7_orders_5 : decode cX7_orders 5 = .ok (.ifCond .ne 6, 3) := by decide +kernel
theorem dX7_orders_8 : decode cX7_orders 8 = .ok (.bipush (-2), 2) := by decide +kernel
theorem dX7_orders_10 : decode cX7_orders 10 = .ok (.ireturn, 1) := by decide +kernel
theorem dX7_orders_11 : decode cX7_orders 11 = .ok (.aload_n 0, 1) := by decide +kernel
theorem dX7_orders_12 : decode cX7_orders 12 = .ok (.getfield 41, 3) := by decide +kernel
theorem dX7_orders_15 : decode cX7_orders 15 = .ok (.aload_n 0, 1) := by decide +kernel
theorem dX7_orders_16 : decode cX7_orders 16 = .ok (.getfield 30, 3) := by decide +kernel
theorem dX7_orders_19 : decode cX7_orders 19 = .ok (.invokevirtual 242, 3) := by decide +kernel
theorem dX7_orders_22 : decode cX7_orders 22 = .ok (.aload_n 0, 1) := by decide +kernel
theorem dX7_orders_23 : decode cX7_orders 23 = .ok (.getfield 41, 3) := by decide +kernel
theorem dX7_orders_26 : decode cX7_orders 26 = .ok (.iload_n 1, 1) := by decide +kernel
theorem dX7_orders_27 : decode cX7_orders 27 = .ok (.invokevirtual 245, 3) := by decide +kernel
theorem dX7_orders_30 : decode cX7_orders 30 = .ok (.ireturn, 1) := by decide +kernel
noncomputable def fX7_orders (lim0 : Nat)  (t_now_cells : Nat → Int32) (t_now_rows : Nat → Int32) (t_now_sizes : Nat → Int32) (t_now_rooms : Nat → Int32) (t_now_told : Int32) (t_now_acts : Int32) (t_choices_rows_n : Nat) (t_choices_rows : Nat → Int64) (t_choices_size : Int32) (t_choices_ready : Int32) (t_choices_pool : Int32) (t_choices_plies : Int32) (t_choices_room : Int32) (v1 : Int32) : Option (Int32 × Nat × (Nat → Int64) × Int32 × Int32 × Int32 × Int32 × Int32) := (if (fX7_isMask t_now_told v1) = 0 then some ((-2), t_choices_rows_n, t_choices_rows, t_choices_size, t_choices_ready, t_choices_pool, t_choices_plies, t_choices_room) else ob7 (fX0_prepare lim0 t_choices_rows_n t_choices_rows t_choices_size t_choices_ready t_choices_pool t_choices_plies t_choices_room t_now_cells t_now_rows t_now_sizes t_now_rooms t_now_acts) fun w4 w5 w6 w7 w8 w9 w10 => (fX0_howMany w4 w5 w6 v1).bind fun r12 => some (r12, w4, w5, w6, w7, w8, w9, w10))
set_option maxHeartbeats 4000000 in
set_option maxRecDepth 100000 in
theorem ctX7_orders (l : Launch) (g : GT) (lim0 : Nat) (sz : Nat) (a_t : Nat → Nat) (a_t_tape : Nat → Nat) (a_t_reader : Nat → Nat) (a_t_now : Nat → Nat) (a_t_choices : Nat → Nat) (a_t_ways : Nat → Nat) (a_t_stress : Nat → Nat) (b_t_choices_rows : Nat) (b_t_choices_seen : Nat) (t_now_told : Int32) (t_now_lines : Int32) (t_now_kinds : Int32) (t_now_acts : Int32) (t_now_cells : Nat → Int32) (t_now_rows : Nat → Int32) (t_now_sizes : Nat → Int32) (t_now_rooms : Nat → Int32) (t_choices_size : Int32) (t_choices_ready : Int32) (t_choices_pool : Int32) (t_choices_plies : Int32) (t_choices_room : Int32) (t_choices_rows_n : Nat) (t_choices_rows : Nat → Int64) (v1 : Int32) (o : Int32) (o_t_choices_rows_n : Nat) (o_t_choices_rows : Nat → Int64) (o_t_choices_size : Int32) (o_t_choices_ready : Int32) (o_t_choices_pool : Int32) (o_t_choices_plies : Int32) (o_t_choices_room : Int32) (h : fX7_orders lim0 t_now_cells t_now_rows t_now_sizes t_now_rooms t_now_told t_now_acts t_choices_rows_n t_choices_rows t_choices_size t_choices_ready t_choices_pool t_choices_plies t_choices_room v1 = some (o, o_t_choices_rows_n, o_t_choices_rows, o_t_choices_size, o_t_choices_ready, o_t_choices_pool, o_t_choices_plies, o_t_choices_room)) : Met l yX7_orders (Cond.code yX7_orders cX7_orders 2 (some .int) :: Tw) ⟨16, 1, lim0, 520⟩ (va_Pc [.ref ((a_t 0)), .int v1] (rwB g [((a_t 0), .inr (6, [.ref (a_t_tape 0), .ref (a_t_reader 0), .ref (a_t_now 0), .ref (a_t 4), .ref (a_t_choices 0), .ref (a_t_ways 0), .ref (a_t_stress 0)])), ((a_t_now 0), .inr (1, [.ref (a_t_now 1), .ref (a_t_now 2), .ref (a_t_now 3), .ref (a_t_now 4), .ref (a_t_now 5), .int t_now_told, .int t_now_lines, .int t_now_kinds, .int t_now_acts])), ((a_t_now 2), .inl (g.2.2.1 0, 144, .inl t_now_cells)), ((a_t_now 3), .inl (g.2.2.1 0, 31, .inl t_now_rows)), ((a_t_now 4), .inl (g.2.2.1 0, 31, .inl t_now_sizes)), ((a_t_now 5), .inl (g.2.2.1 0, 31, .inl t_now_rooms)), ((a_t_choices 0), .inr (0, [.ref b_t_choices_rows, .ref b_t_choices_seen, .int t_choices_size, .int t_choices_ready, .int t_choices_pool, .int t_choices_plies, .int t_choices_room])), (b_t_choices_rows, .inl (g.2.2.1 1, t_choices_rows_n, .inr (.inl t_choices_rows)))] sz)) (va_Qi (fun x (_ : Nat → Nat) => x = o) (fun u => rwE g (va_A [((a_t 0), .inr (6, [.ref (a_t_tape 0), .ref (a_t_reader 0), .ref (a_t_now 0), .ref (a_t 4), .ref (a_t_choices 0), .ref (a_t_ways 0), .ref (a_t_stress 0)])), ((a_t_now 0), .inr (1, [.ref (a_t_now 1), .ref (a_t_now 2), .ref (a_t_now 3), .ref (a_t_now 4), .ref (a_t_now 5), .int t_now_told, .int t_now_lines, .int t_now_kinds, .int t_now_acts])), ((a_t_now 2), .inl (g.2.2.1 0, 144, .inl t_now_cells)), ((a_t_now 3), .inl (g.2.2.1 0, 31, .inl t_now_rows)), ((a_t_now 4), .inl (g.2.2.1 0, 31, .inl t_now_sizes)), ((a_t_now 5), .inl (g.2.2.1 0, 31, .inl t_now_rooms)), ((a_t_choices 0), .inr (0, [.ref b_t_choices_rows, .ref b_t_choices_seen, .int t_choices_size, .int t_choices_ready, .int t_choices_pool, .int t_choices_plies, .int t_choices_room])), (b_t_choices_rows, .inl (g.2.2.1 1, t_choices_rows_n, .inr (.inl t_choices_rows)))] sz) [((a_t 0), .inr (6, [.ref (a_t_tape 0), .ref (a_t_reader 0), .ref (a_t_now 0), .ref (a_t 4), .ref (a_t_choices 0), .ref (a_t_ways 0), .ref (a_t_stress 0)])), ((a_t_now 0), .inr (1, [.ref (a_t_now 1), .ref (a_t_now 2), .ref (a_t_now 3), .ref (a_t_now 4), .ref (a_t_now 5), .int t_now_told, .int t_now_lines, .int t_now_kinds, .int t_now_acts])), ((a_t_now 2), .inl (g.2.2.1 0, 144, .inl t_now_cells)), ((a_t_now 3), .inl (g.2.2.1 0, 31, .inl t_now_rows)), ((a_t_now 4), .inl (g.2.2.1 0, 31, .inl t_now_sizes)), ((a_t_now 5), .inl (g.2.2.1 0, 31, .inl t_now_rooms)), ((a_t_choices 0), .inr (0, [.ref (u 0), .ref b_t_choices_seen, .int o_t_choices_size, .int o_t_choices_ready, .int o_t_choices_pool, .int o_t_choices_plies, .int o_t_choices_room])), ((u 0), .inl (g.2.2.1 1, o_t_choices_rows_n, .inr (.inl o_t_choices_rows)))]) (va_A [((a_t 0), .inr (6, [.ref (a_t_tape 0), .ref (a_t_reader 0), .ref (a_t_now 0), .ref (a_t 4), .ref (a_t_choices 0), .ref (a_t_ways 0), .ref (a_t_stress 0)])), ((a_t_now 0), .inr (1, [.ref (a_t_now 1), .ref (a_t_now 2), .ref (a_t_now 3), .ref (a_t_now 4), .ref (a_t_now 5), .int t_now_told, .int t_now_lines, .int t_now_kinds, .int t_now_acts])), ((a_t_now 2), .inl (g.2.2.1 0, 144, .inl t_now_cells)), ((a_t_now 3), .inl (g.2.2.1 0, 31, .inl t_now_rows)), ((a_t_now 4), .inl (g.2.2.1 0, 31, .inl t_now_sizes)), ((a_t_now 5), .inl (g.2.2.1 0, 31, .inl t_now_rooms)), ((a_t_choices 0), .inr (0, [.ref b_t_choices_rows, .ref b_t_choices_seen, .int t_choices_size, .int t_choices_ready, .int t_choices_pool, .int t_choices_plies, .int t_choices_room])), (b_t_choices_rows, .inl (g.2.2.1 1, t_choices_rows_n, .inr (.inl t_choices_rows)))] sz)) 1 lim0 (va_A [((a_t 0), .inr (6, [.ref (a_t_tape 0), .ref (a_t_reader 0), .ref (a_t_now 0), .ref (a_t 4), .ref (a_t_choices 0), .ref (a_t_ways 0), .ref (a_t_stress 0)])), ((a_t_now 0), .inr (1, [.ref (a_t_now 1), .ref (a_t_now 2), .ref (a_t_now 3), .ref (a_t_now 4), .ref (a_t_now 5), .int t_now_told, .int t_now_lines, .int t_now_kinds, .int t_now_acts])), ((a_t_now 2), .inl (g.2.2.1 0, 144, .inl t_now_cells)), ((a_t_now 3), .inl (g.2.2.1 0, 31, .inl t_now_rows)), ((a_t_now 4), .inl (g.2.2.1 0, 31, .inl t_now_sizes)), ((a_t_now 5), .inl (g.2.2.1 0, 31, .inl t_now_rooms)), ((a_t_choices 0), .inr (0, [.ref b_t_choices_rows, .ref b_t_choices_seen, .int t_choices_size, .int t_choices_ready, .int t_choices_pool, .int t_choices_plies, .int t_choices_room])), (b_t_choices_rows, .inl (g.2.2.1 1, t_choices_rows_n, .inr (.inl t_choices_rows)))] sz) := by
  refine rw_meti (by decide) (Nat.le_of_ble_eq_true rfl) (lv0 := [(0, .ref ((a_t 0))), (1, .int v1)]) rfl ?_
  intro p e s m args below meth c ls Q A cx hret hG hAb hb0 hA hP hD hl
  have hx := cx.1
  have hb := cx.2.1
  have hG0 := hG
  have hGk : ∀ {H : Heap} {locs : List Loc}, va_S A s.heap H locs → GE g s H := fun hS => hG0.keptS hAb hS
  have hSb : ∀ {H : Heap} {locs : List Loc}, va_S A s.heap H locs → va_S (fun a => g.1 ≤ a) s.heap H locs := fun hS => ⟨hS.1, fun q h1 h2 => hS.2.1 q h1 (fun z => h2 (hAb q z)), fun l hl => hAb _ (hS.2.2 l hl)⟩
  have hS : va_S A s.heap s.heap [] := va_S.rf
  unfold fX7_orders at h
  refine lv_aload_n hx hb dX7_orders_0 rfl (lv_at hl 0 rfl) ?_
  refine lv_iload_n hx hb dX7_orders_1 rfl (lv_at hl 1 rfl) ?_
  refine ro_z (runV (As := [.int v1]) (rest := []) cx hl.1 (ctX7_isMask l g a_t a_t_tape a_t_reader a_t_now a_t_choices a_t_ways a_t_stress t_now_told t_now_lines t_now_kinds t_now_acts v1 (fX7_isMask t_now_told v1) rfl) kmX7_isMask kvX7_isMask lm_X7_239 ⟨rfl, rfl⟩ ⟨Nat.le_of_ble_eq_true rfl, Nat.le_of_ble_eq_true rfl⟩ (roV (q0 := 0) (ci := 6) hG (hP.sub [0, 1] rfl) hP rfl rfl) rfl rfl (Nat.le_of_ble_eq_true rfl) dX7_orders_2 ⟨Nat.le_of_ble_eq_true rfl, (show (0 + 0 : Nat) ≤ lim0 by omega)⟩) (fun hz1 => ?_)
  refine lv_if_ne (tgt := 11) hx hb dX7_orders_5 (by decide) (fun c2 => ?_) (fun c2 => ?_)
  · have h := itn c2 h
    refine lv_aload_n hx hb dX7_orders_11 rfl (lv_at hl 0 rfl) ?_
    refine xa_get (C := RX7) (T := TX7) (N := 7) cx hG hP 0 rfl rfl uX7 4 (by decide) lf_X7_41 rfl dX7_orders_12 ?_
    refine lv_aload_n hx hb dX7_orders_15 rfl (lv_at hl 0 rfl) ?_
    refine xa_get (C := RX7) (T := TX7) (N := 7) cx hG hP 0 rfl rfl uX7 2 (by decide) lf_X7_30 rfl dX7_orders_16 ?_
    obtain ⟨w4, w5, w6, w7, w8, w9, w10, hr3, h⟩ := ob7_out h
    refine rw_v (WN := fun u11 => [((a_t 0), .inr (6, [.ref (a_t_tape 0), .ref (a_t_reader 0), .ref (a_t_now 0), .ref (a_t 4), .ref (a_t_choices 0), .ref (a_t_ways 0), .ref (a_t_stress 0)])), ((a_t_choices 0), .inr (0, [.ref (u11 0), .ref b_t_choices_seen, .int w6, .int w7, .int w8, .int w9, .int w10])), ((u11 0), .inl (g.2.2.1 1, w4, .inr (.inl w5))), ((a_t_now 0), .inr (1, [.ref (a_t_now 1), .ref (a_t_now 2), .ref (a_t_now 3), .ref (a_t_now 4), .ref (a_t_now 5), .int t_now_told, .int t_now_lines, .int t_now_kinds, .int t_now_acts])), ((a_t_now 2), .inl (g.2.2.1 0, 144, .inl t_now_cells)), ((a_t_now 3), .inl (g.2.2.1 0, 31, .inl t_now_rows)), ((a_t_now 4), .inl (g.2.2.1 0, 31, .inl t_now_sizes)), ((a_t_now 5), .inl (g.2.2.1 0, 31, .inl t_now_rooms))]) (wr := [((a_t 0), .inr (6, [.ref (a_t_tape 0), .ref (a_t_reader 0), .ref (a_t_now 0), .ref (a_t 4), .ref (a_t_choices 0), .ref (a_t_ways 0), .ref (a_t_stress 0)]))]) (runVN (As := [.ref ((a_t_now 0))]) (rest := []) hG cx hl.1 (ctX0_prepare l g lim0 s.heap.size a_t_choices b_t_choices_rows b_t_choices_seen a_t_now t_choices_size t_choices_ready t_choices_pool t_choices_plies t_choices_room t_choices_rows_n t_choices_rows t_now_told t_now_lines t_now_kinds t_now_acts t_now_cells t_now_rows t_now_sizes t_now_rooms w4 w5 w6 w7 w8 w9 w10 hr3) kmX0_prepare kvX0_prepare nm_52 ⟨rfl, rfl⟩ ⟨Nat.le_of_ble_eq_true rfl, Nat.le_of_ble_eq_true rfl⟩ (rwV (q0 := 6) (ci := 0) hG (hP.sub [6, 7, 1, 2, 3, 4, 5] rfl) (hD.sub [6, 7, 1, 2, 3, 4, 5] (by decide) rfl) hAb hb0 hS hP rfl rfl) rfl rfl (Nat.le_of_ble_eq_true rfl) dX7_orders_19 ⟨Nat.le_of_ble_eq_true rfl, (show (0 + lim0 : Nat) ≤ lim0 by omega)⟩) hP hD hS hA [6, 7, 1, 2, 3, 4, 5] [0] rfl rfl (by decide) (by decide) (fun _ => rfl) (fun u11 H locs hP hD hS => ?_)
    have hG := hGk hS
    refine lv_aload_n hx hb dX7_orders_22 rfl (lv_at hl 0 rfl) ?_
    refine xa_get (C := RX7) (T := TX7) (N := 7) cx hG hP 0 rfl rfl uX7 4 (by decide) lf_X7_41 rfl dX7_orders_23 ?_
    refine lv_iload_n hx hb dX7_orders_26 rfl (lv_at hl 1 rfl) ?_
    obtain ⟨r12, hr13, h⟩ := bnd h
    refine ro_i (runVN (As := [.int v1]) (rest := []) hG cx hl.1 (ctX0_howMany l g a_t_choices (u11 0) b_t_choices_seen w6 w7 w8 w9 w10 w4 w5 v1 r12 hr13) kmX0_howMany kvX0_howMany nm_65 ⟨rfl, rfl⟩ ⟨Nat.le_of_ble_eq_true rfl, Nat.le_of_ble_eq_true rfl⟩ (roV (q0 := 1) (ci := 0) hG (hP.sub [1, 2] rfl) hP rfl rfl) rfl rfl (Nat.le_of_ble_eq_true rfl) dX7_orders_27 ⟨Nat.le_of_ble_eq_true rfl, (show (0 + lim0 + 0 : Nat) ≤ lim0 by omega)⟩) ?_
    refine W.widen (k := 1) (n := lim0) (Nat.le_of_ble_eq_true rfl) (show (0 + lim0 : Nat) ≤ lim0 by omega) ?_
    cases h
    exact hret (fun _ => (u11 0)) _ _ _ _ _ dX7_orders_30 rfl (hP.sub [0, 3, 4, 5, 6, 7, 1, 2] rfl) (hD.sub [0, 3, 4, 5, 6, 7, 1, 2] (by decide) rfl) hS
  · have h := itp c2 h
    refine lv_bipush (v := -2) hx hb dX7_orders_8 (by decide) ?_
    refine W.widen (k := 1) (n := lim0) (Nat.le_of_ble_eq_true rfl) (show (0 : Nat) ≤ lim0 by omega) ?_
    cases h
    exact hret (fun _ => b_t_choices_rows) _ _ _ _ _ dX7_orders_10 rfl (hP.sub [0, 1, 2, 3, 4, 5, 6, 7] rfl) (hD.sub [0, 1, 2, 3, 4, 5, 6, 7] (by decide) rfl) hS
-- J7_fill_d0a16
theorem dJ7_fill_d0a16_0 : decode cJ7_fill_d0a16 0 = .ok (.iconst 0, 1) := by decide +kernel
theorem dJ7_fill_d0a16_1 : decode cJ7_fill_d0a16 1 = .ok (.istore_n 3, 1) := by decide +kernel
theorem dJ7_fill_d0a16_2 : decode cJ7_fill_d0a16 2 = .ok (.aload_n 0, 1) := by decide +kernel
theorem dJ7_fill_d0a16_3 : decode cJ7_fill_d0a16 3 = .ok (.arraylength, 1) := by decide +kernel
theorem dJ7_fill_d0a16_4 : decode cJ7_fill_d0a16 4 = .ok (.istore 4, 2) := by decide +kernel
theorem dJ7_fill_d0a16_6 : decode cJ7_fill_d0a16 6 = .ok (.iload_n 3, 1) := by decide +kernel
theorem dJ7_fill_d0a16_7 : decode cJ7_fill_d0a16 7 = .ok (.iload 4, 2) := by decide +kernel
theorem dJ7_fill_d0a16_9 : decode cJ7_fill_d0a16 9 = .ok (.if_icmp .ge 13, 3) := by decide +kernel
theorem dJ7_fill_d0a16_12 : decode cJ7_fill_d0a16 12 = .ok (.aload_n 0, 1) := by decide +kernel
theorem dJ7_fill_d0a16_13 : decode cJ7_fill_d0a16 13 = .ok (.iload_n 3, 1) := by decide +kernel
theorem dJ7_fill_d0a16_14 : decode cJ7_fill_d0a16 14 = .ok (.lload_n 1, 1) := by decide +kernel
theorem dJ7_fill_d0a16_15 : decode cJ7_fill_d0a16 15 = .ok (.lastore, 1) := by decide +kernel
theorem dJ7_fill_d0a16_16 : decode cJ7_fill_d0a16 16 = .ok (.iinc 3 1, 3) := by decide +kernel
theorem dJ7_fill_d0a16_19 : decode cJ7_fill_d0a16 19 = .ok (.goto (-13), 3) := by decide +kernel
theorem dJ7_fill_d0a16_22 : decode cJ7_fill_d0a16 22 = .ok (.return_, 1) := by decide +kernel
noncomputable def fJ7_fill_d0a16_6  : Nat → Nat → (Nat → Int64) → Int64 → Int32 → Int32 → Option ((Nat → Int64))
  | 0, _, _, _, _, _ => none
  | n + 1, p1_n, p1, v1, v3, v4 => (if v4 ≤ v3 then some p1 else chk p1_n v3 (fJ7_fill_d0a16_6 n p1_n (vp_updL p1 v3.toNatClampNeg v1) v1 (v3 + 1) v4))
theorem fJ7_fill_d0a16_6_z  (p1_n : Nat) (p1 : Nat → Int64) (v1 : Int64) (v3 : Int32) (v4 : Int32) : fJ7_fill_d0a16_6  0 p1_n p1 v1 v3 v4 = none := rfl
theorem fJ7_fill_d0a16_6_s  (n : Nat) (p1_n : Nat) (p1 : Nat → Int64) (v1 : Int64) (v3 : Int32) (v4 : Int32) : fJ7_fill_d0a16_6  (n + 1) p1_n p1 v1 v3 v4 = (if v4 ≤ v3 then some p1 else chk p1_n v3 (fJ7_fill_d0a16_6 n p1_n (vp_updL p1 v3.toNatClampNeg v1) v1 (v3 + 1) v4)) := rfl
noncomputable def fJ7_fill_d0a16  (p1_n : Nat) (p1 : Nat → Int64) (v1 : Int64) : Option ((Nat → Int64)) := fJ7_fill_d0a16_6 FU p1_n p1 v1 0 (nI p1_n)
set_option maxHeartbeats 4000000 in
set_option maxRecDepth 100000 in
theorem ctJ7_fill_d0a16 (l : Launch) (g : GT) (sz : Nat) (b_p1 : Nat) (p1_n : Nat) (p1 : Nat → Int64) (v1 : Int64) (o_p1 : Nat → Int64) (h : fJ7_fill_d0a16 p1_n p1 v1 = some (o_p1)) : Met l yJ7_fill_d0a16 (Cond.code yJ7_fill_d0a16 cJ7_fill_d0a16 5 none :: Tw) ⟨0, 0, 0, 0⟩ (va_Pc [.ref b_p1, .long v1] (rwB g [(b_p1, .inl (g.2.2.1 1, p1_n, .inr (.inl p1)))] sz)) (va_Qv (fun (_ : Nat → Nat) => True) (fun u => rwE g (va_A [(b_p1, .inl (g.2.2.1 1, p1_n, .inr (.inl p1)))] sz) [(b_p1, .inl (g.2.2.1 1, p1_n, .inr (.inl o_p1)))]) (va_A [(b_p1, .inl (g.2.2.1 1, p1_n, .inr (.inl p1)))] sz)) 0 0 (va_A [(b_p1, .inl (g.2.2.1 1, p1_n, .inr (.inl p1)))] sz) := by
  refine rw_metv (by decide) (Nat.le_of_ble_eq_true rfl) (lv0 := [(0, .ref b_p1), (1, .long v1)]) rfl ?_
  intro p e s m args below meth c ls Q A cx hret hG hAb hb0 hA hP hD hl
  have hx := cx.1
  have hb := cx.2.1
  have hG0 := hG
  have hGk : ∀ {H : Heap} {locs : List Loc}, va_S A s.heap H locs → GE g s H := fun hS => hG0.keptS hAb hS
  have hSb : ∀ {H : Heap} {locs : List Loc}, va_S A s.heap H locs → va_S (fun a => g.1 ≤ a) s.heap H locs := fun hS => ⟨hS.1, fun q h1 h2 => hS.2.1 q h1 (fun z => h2 (hAb q z)), fun l hl => hAb _ (hS.2.2 l hl)⟩
  have hS : va_S A s.heap s.heap [] := va_S.rf
  have w6 : ∀ (n : Nat) (p1 : Nat → Int64) (v1 : Int64) (v3 : Int32) (v4 : Int32) (H : Heap) (locs : List Loc), va_P g.2.1 vwCl [(b_p1, .inl (g.2.2.1 1, p1_n, .inr (.inl p1)))] H → va_D A [(b_p1, .inl (g.2.2.1 1, p1_n, .inr (.inl p1)))] → va_S A s.heap H locs → ∀ (ls : Array Slot), lv_has ls 5 [(0, .ref b_p1), (1, .long v1), (3, .int v3), (4, .int v4)] → fJ7_fill_d0a16_6  n p1_n p1 v1 v3 v4 = some (o_p1) → W p l e ⟨0, 0, 0, 0⟩ s m args below meth c H locs 0 0 Q (F0 m 6 ls []) := by
    intro n
    induction n with
    | zero => intro p1 v1 v3 v4 H locs hP hD hS ls hl h; cases (fJ7_fill_d0a16_6_z  p1_n p1 v1 v3 v4).symm.trans h
    | succ n ih =>
    intro p1 v1 v3 v4 H locs hP hD hS ls hl h
    have h := (fJ7_fill_d0a16_6_s  n p1_n p1 v1 v3 v4).symm.trans h
    have hG := hGk hS
    refine lv_iload_n hx hb dJ7_fill_d0a16_6 rfl (lv_at hl 2 rfl) ?_
    refine lv_iload hx hb dJ7_fill_d0a16_7 (lv_at hl 3 rfl) ?_
    refine lv_icmp_ge (tgt := 22) hx hb dJ7_fill_d0a16_9 (by decide) (fun c1 => ?_) (fun c1 => ?_)
    · have h := itp c1 h
      cases h
      exact hret (fun _ => 0) _ _ _ _ dJ7_fill_d0a16_22 (hP.sub [0] rfl) (hD.sub [0] (by decide) rfl) hS
    · have h := itn c1 h
      refine lv_aload_n hx hb dJ7_fill_d0a16_12 rfl (lv_at hl 0 rfl) ?_
      refine lv_iload_n hx hb dJ7_fill_d0a16_13 rfl (lv_at hl 2 rfl) ?_
      refine lv_lload_n hx hb dJ7_fill_d0a16_14 rfl (lv_at hl 1 rfl) ?_
      obtain ⟨hi2, h⟩ := chk_out h
      refine xw_last (ws' := [(b_p1, .inl (g.2.2.1 1, p1_n, .inr (.inl (vp_updL p1 v3.toNatClampNeg v1))))]) (k := v3.toNatClampNeg) cx hG hP hD hS 0 rfl hi2 rfl rfl dJ7_fill_d0a16_15 (fun H locs hP hD hS => ?_)
      have hG := hGk hS
      refine lv_iinc (v := v3 + 1) (lv' := [(3, .int (v3 + 1)), (0, .ref b_p1), (1, .long v1), (4, .int v4)]) hx hb dJ7_fill_d0a16_16 hl (k := 2) rfl rfl (by decide) rfl (fun ls hl => ?_)
      refine lv_goto (tgt := 6) hx hb dJ7_fill_d0a16_19 (by decide) ?_
      exact ih (vp_updL p1 v3.toNatClampNeg v1) v1 (v3 + 1) v4 _ _ hP hD hS _ (lv_sub hl [1, 2, 0, 3] rfl) h
  unfold fJ7_fill_d0a16 at h
  refine lv_iconst (v := 0) hx hb dJ7_fill_d0a16_0 (by decide) ?_
  refine lv_istore_n (lv' := [(3, .int (0)), (0, .ref b_p1), (1, .long v1)]) hx hb dJ7_fill_d0a16_1 rfl hl (by decide) rfl (fun ls hl => ?_)
  refine lv_aload_n hx hb dJ7_fill_d0a16_2 rfl (lv_at hl 1 rfl) ?_
  refine xa_len cx hG hP 0 rfl 1 rfl (v := nI p1_n) rfl dJ7_fill_d0a16_3 ?_
  refine lv_istore (lv' := [(4, .int (nI p1_n)), (3, .int (0)), (0, .ref b_p1), (1, .long v1)]) hx hb dJ7_fill_d0a16_4 hl (by decide) rfl (fun ls hl => ?_)
  exact w6 FU p1 v1 0 (nI p1_n) _ _ hP hD hS _ (lv_sub hl [2, 3, 1, 0] rfl) h
-- X0_rowAt
theorem dX0_rowAt_0 : decode cX0_rowAt 0 = .ok (.iload_n 1, 1) := by decide +kernel
theorem dX0_rowAt_1 : decode cX0_rowAt 1 = .ok (.ifCond .lt 12, 3) := by decide +kernel
theorem dX0_rowAt_4 : decode cX0_rowAt 4 = .ok (.iload_n 1, 1) := by decide +kernel
theorem dX0_rowAt_5 : decode cX0_rowAt 5 = .ok (.aload_n 0, 1) := by decide +kernel
theorem dX0_rowAt_6 : decode cX0_rowAt 6 = .ok (.getfield 9, 3) := by decide +kernel
theorem dX0_rowAt_9 : decode cX0_rowAt 9 = .ok (.arraylength, 1) := by decide +kernel
theorem dX0_rowAt_10 : decode cX0_rowAt 10 = .ok (.if_icmp .lt 7, 3) := by decide +kernel
theorem dX0_rowAt_13 : decode cX0_rowAt 13 = .ok (.iconst 0, 1) := by decide +kernel
theorem dX0_rowAt_14 : decode cX0_rowAt 14 = .ok (.goto 10, 3) := by decide +kernel
theorem dX0_rowAt_17 : decode cX0_rowAt 17 = .ok (.aload_n 0, 1) := by decide +kernel
theorem dX0_rowAt_18 : decode cX0_rowAt 18 = .ok (.getfield 9, 3) := by decide +kernel
theorem dX0_rowAt_21 : decode cX0_rowAt 21 = .ok (.iload_n 1, 1) := by decide +kernel
theorem dX0_rowAt_22 : decode cX0_rowAt 22 = .ok (.laload, 1) := by decide +kernel
theorem dX0_rowAt_23 : decode cX0_rowAt 23 = .ok (.l2i, 1) := by decide +kernel
theorem dX0_rowAt_24 : decode cX0_rowAt 24 = .ok (.ireturn, 1) := by decide +kernel
noncomputable def fX0_rowAt  (t_rows_n : Nat) (t_rows : Nat → Int64) (v1 : Int32) : Option (Int32) := (if v1 < 0 then some (0) else (if v1 < (nI t_rows_n) then chk t_rows_n v1 (some ((t_rows v1.toNatClampNeg).toInt32)) else some (0)))
set_option maxHeartbeats 4000000 in
set_option maxRecDepth 100000 in
theorem ctX0_rowAt (l : Launch) (g : GT) (a_t : Nat → Nat) (b_t_rows : Nat) (b_t_seen : Nat) (t_size : Int32) (t_ready : Int32) (t_pool : Int32) (t_plies : Int32) (t_room : Int32) (t_rows_n : Nat) (t_rows : Nat → Int64) (v1 : Int32) (o : Int32) (h : fX0_rowAt t_rows_n t_rows v1 = some o) : Met l yX0_rowAt (Cond.code yX0_rowAt cX0_rowAt 2 (some .int) :: Tw) ⟨0, 0, 0, 0⟩ (va_Pc [.ref ((a_t 0)), .int v1] (roB g [((a_t 0), .inr (0, [.ref b_t_rows, .ref b_t_seen, .int t_size, .int t_ready, .int t_pool, .int t_plies, .int t_room])), (b_t_rows, .inl (g.2.2.1 1, t_rows_n, .inr (.inl t_rows)))])) (vp_Si (fun x => x = o)) 0 0 (fun _ => False) := by
  refine ro_meti (by decide) (Nat.le_of_ble_eq_true rfl) (lv0 := [(0, .ref ((a_t 0))), (1, .int v1)]) rfl ?_
  intro p e s m args below meth c ls Q cx hret hG hP hl
  have hx := cx.1
  have hb := cx.2.1
  have hG0 := hG
  unfold fX0_rowAt at h
  refine lv_iload_n hx hb dX0_rowAt_0 rfl (lv_at hl 1 rfl) ?_
  refine lv_if_lt (tgt := 13) hx hb dX0_rowAt_1 (by decide) (fun c1 => ?_) (fun c1 => ?_)
  · have h := itp c1 h
    refine lv_iconst (v := 0) hx hb dX0_rowAt_13 (by decide) ?_
    refine lv_goto (tgt := 24) hx hb dX0_rowAt_14 (by decide) ?_
    exact hret _ _ _ dX0_rowAt_24 (Option.some.inj h)
  · have h := itn c1 h
    refine lv_iload_n hx hb dX0_rowAt_4 rfl (lv_at hl 1 rfl) ?_
    refine lv_aload_n hx hb dX0_rowAt_5 rfl (lv_at hl 0 rfl) ?_
    refine xa_get (C := RX0) (T := TX0) (N := 7) cx hG hP 0 rfl rfl uX0 0 (by decide) lf_X0_9 rfl dX0_rowAt_6 ?_
    refine xa_len cx hG hP 1 rfl 1 rfl (v := nI t_rows_n) rfl dX0_rowAt_9 ?_
    refine lv_icmp_lt (tgt := 17) hx hb dX0_rowAt_10 (by decide) (fun c2 => ?_) (fun c2 => ?_)
    · have h := itp c2 h
      refine lv_aload_n hx hb dX0_rowAt_17 rfl (lv_at hl 0 rfl) ?_
      refine xa_get (C := RX0) (T := TX0) (N := 7) cx hG hP 0 rfl rfl uX0 0 (by decide) lf_X0_9 rfl dX0_rowAt_18 ?_
      refine lv_iload_n hx hb dX0_rowAt_21 rfl (lv_at hl 1 rfl) ?_
      obtain ⟨hi3, h⟩ := chk_out h
      refine xa_lald cx hG hP 1 rfl hi3 rfl dX0_rowAt_22 ?_
      refine lv_l2i (v := (t_rows v1.toNatClampNeg).toInt32) hx hb dX0_rowAt_23 rfl ?_
      exact hret _ _ _ dX0_rowAt_24 (Option.some.inj h)
    · have h := itn c2 h
      refine lv_iconst (v := 0) hx hb dX0_rowAt_13 (by decide) ?_
      refine lv_goto (tgt := 24) hx hb dX0_rowAt_14 (by decide) ?_
      exact hret _ _ _ dX0_rowAt_24 (Option.some.inj h)
-- X0_bendKey
theorem dX0_bendKey_0 : decode cX0_bendKey 0 = .ok (.lconst 0, 1) := by decide +kernel
theorem dX0_bendKey_1 : decode cX0_bendKey 1 = .ok (.lstore_n 3, 1) := by decide +kernel
theorem dX0_bendKey_2 : decode cX0_bendKey 2 = .ok (.iconst 0, 1) := by decide +kernel
theorem dX0_bendKey_3 : decode cX0_bendKey 3 = .ok (.istore 5, 2) := by decide +kernel
theorem dX0_bendKey_5 : decode cX0_bendKey 5 = .ok (.iload 5, 2) := by decide +kernel
theorem dX0_bendKey_7 : decode cX0_bendKey 7 = .ok (.iconst 3, 1) := by decide +kernel
theorem dX0_bendKey_8 : decode cX0_bendKey 8 = .ok (.if_icmp .ge 38, 3) := by decide +kernel
theorem dX0_bendKey_11 : decode cX0_bendKey 11 = .ok (.aload_n 1, 1) := by decide +kernel
theorem dX0_bendKey_12 : decode cX0_bendKey 12 = .ok (.iload_n 2, 1) := by decide +kernel
theorem dX0_bendKey_13 : decode cX0_bendKey 13 = .ok (.aload_n 0, 1) := by decide +kernel
theorem dX0_bendKey_14 : decode cX0_bendKey 14 = .ok (.getfield 41, 3) := by decide +kernel
theorem dX0_bendKey_17 : decode cX0_bendKey 17 = .ok (.iconst 0, 1) := by decide +kernel
theorem dX0_bendKey_18 : decode cX0_bendKey 18 = .ok (.iconst 2, 1) := by decide +kernel
theorem dX0_bendKey_19 : decode cX0_bendKey 19 = .ok (.iconst 4, 1) := by decide +kernel
theorem dX0_bendKey_20 : decode cX0_bendKey 20 = .ok (.iload 5, 2) := by decide +kernel
theorem dX0_bendKey_22 : decode cX0_bendKey 22 = .ok (.imul, 1) := by decide +kernel
theorem dX0_bendKey_23 : decode cX0_bendKey 23 = .ok (.invokevirtual 107, 3) := by decide +kernel
theorem dX0_bendKey_26 : decode cX0_bendKey 26 = .ok (.ldc2_w 133, 3) := by decide +kernel
theorem dX0_bendKey_29 : decode cX0_bendKey 29 = .ok (.ladd, 1) := by decide +kernel
theorem dX0_bendKey_30 : decode cX0_bendKey 30 = .ok (.lstore 6, 2) := by decide +kernel
theorem dX0_bendKey_32 : decode cX0_bendKey 32 = .ok (.lload_n 3, 1) := by decide +kernel
theorem dX0_bendKey_33 : decode cX0_bendKey 33 = .ok (.bipush 21, 2) := by decide +kernel
theorem dX0_bendKey_35 : decode cX0_bendKey 35 = .ok (.lshl, 1) := by decide +kernel
theorem dX0_bendKey_36 : decode cX0_bendKey 36 = .ok (.lload 6, 2) := by decide +kernel
theorem dX0_bendKey_38 : decode cX0_bendKey 38 = .ok (.lor, 1) := by decide +kernel
theorem dX0_bendKey_39 : decode cX0_bendKey 39 = .ok (.lstore_n 3, 1) := by decide +kernel
theorem dX0_bendKey_40 : decode cX0_bendKey 40 = .ok (.iinc 5 1, 3) := by decide +kernel
theorem dX0_bendKey_43 : decode cX0_bendKey 43 = .ok (.goto (-38), 3) := by decide +kernel
theorem dX0_bendKey_46 : decode cX0_bendKey 46 = .ok (.lload_n 3, 1) := by decide +kernel
theorem dX0_bendKey_47 : decode cX0_bendKey 47 = .ok (.lreturn, 1) := by decide +kernel
noncomputable def fX0_bendKey_5  : Nat → Int32 → (Nat → Int32) → Int32 → Int64 → Int32 → Option (Int64)
  | 0, _, _, _, _, _ => none
  | n + 1, t_plies, p1_cells, v2, v3, v5 => (if 3 ≤ v5 then some v3 else (fX1_totalOf p1_cells v2 t_plies 0 2 (4 * v5)).bind fun r2 => fX0_bendKey_5 n t_plies p1_cells v2 ((lshl v3 21) ||| (r2 + 1048576)) (v5 + 1))
theorem fX0_bendKey_5_z  (t_plies : Int32) (p1_cells : Nat → Int32) (v2 : Int32) (v3 : Int64) (v5 : Int32) : fX0_bendKey_5  0 t_plies p1_cells v2 v3 v5 = none := rfl
theorem fX0_bendKey_5_s  (n : Nat) (t_plies : Int32) (p1_cells : Nat → Int32) (v2 : Int32) (v3 : Int64) (v5 : Int32) : fX0_bendKey_5  (n + 1) t_plies p1_cells v2 v3 v5 = (if 3 ≤ v5 then some v3 else (fX1_totalOf p1_cells v2 t_plies 0 2 (4 * v5)).bind fun r2 => fX0_bendKey_5 n t_plies p1_cells v2 ((lshl v3 21) ||| (r2 + 1048576)) (v5 + 1)) := rfl
noncomputable def fX0_bendKey  (t_plies : Int32) (p1_cells : Nat → Int32) (v2 : Int32) : Option (Int64) := fX0_bendKey_5 FU t_plies p1_cells v2 0 0
set_option maxHeartbeats 4000000 in
set_option maxRecDepth 100000 in
theorem ctX0_bendKey (l : Launch) (g : GT) (a_t : Nat → Nat) (b_t_rows : Nat) (b_t_seen : Nat) (a_p1 : Nat → Nat) (t_size : Int32) (t_ready : Int32) (t_pool : Int32) (t_plies : Int32) (t_room : Int32) (p1_told : Int32) (p1_lines : Int32) (p1_kinds : Int32) (p1_acts : Int32) (p1_cells : Nat → Int32) (v2 : Int32) (o : Int64) (h : fX0_bendKey t_plies p1_cells v2 = some o) : Met l yX0_bendKey (Cond.code yX0_bendKey cX0_bendKey 8 (some .long) :: Tw) ⟨2, 0, 0, 50⟩ (va_Pc [.ref ((a_t 0)), .ref ((a_p1 0)), .int v2] (roB g [((a_t 0), .inr (0, [.ref b_t_rows, .ref b_t_seen, .int t_size, .int t_ready, .int t_pool, .int t_plies, .int t_room])), ((a_p1 0), .inr (1, [.ref (a_p1 1), .ref (a_p1 2), .ref (a_p1 3), .ref (a_p1 4), .ref (a_p1 5), .int p1_told, .int p1_lines, .int p1_kinds, .int p1_acts])), ((a_p1 2), .inl (g.2.2.1 0, 144, .inl p1_cells))])) (vp_Sl (fun x => x = o)) 0 0 (fun _ => False) := by
  refine ro_metl (by decide) (Nat.le_of_ble_eq_true rfl) (lv0 := [(0, .ref ((a_t 0))), (1, .ref ((a_p1 0))), (2, .int v2)]) rfl ?_
  intro p e s m args below meth c ls Q cx hret hG hP hl
  have hx := cx.1
  have hb := cx.2.1
  have hG0 := hG
  have w5 : ∀ (n : Nat) (v2 : Int32) (v3 : Int64) (v5 : Int32) (ls : Array Slot), lv_has ls 8 [(0, .ref ((a_t 0))), (1, .ref ((a_p1 0))), (2, .int v2), (3, .long v3), (5, .int v5)] → fX0_bendKey_5  n t_plies p1_cells v2 v3 v5 = some o → W p l e ⟨2, 0, 0, 50⟩ s m args below meth c s.heap [] 0 0 Q (F0 m 5 ls []) := by
    intro n
    induction n with
    | zero => intro v2 v3 v5 ls hl h; cases (fX0_bendKey_5_z  t_plies p1_cells v2 v3 v5).symm.trans h
    | succ n ih =>
    intro v2 v3 v5 ls hl h
    have h := (fX0_bendKey_5_s  n t_plies p1_cells v2 v3 v5).symm.trans h
    refine lv_iload hx hb dX0_bendKey_5 (lv_at hl 4 rfl) ?_
    refine lv_iconst (v := 3) hx hb dX0_bendKey_7 (by decide) ?_
    refine lv_icmp_ge (tgt := 46) hx hb dX0_bendKey_8 (by decide) (fun c1 => ?_) (fun c1 => ?_)
    · have h := itp c1 h
      refine lv_lload_n hx hb dX0_bendKey_46 rfl (lv_at hl 3 rfl) ?_
      exact hret _ _ _ dX0_bendKey_47 (Option.some.inj h)
    · have h := itn c1 h
      refine lv_aload_n hx hb dX0_bendKey_11 rfl (lv_at hl 1 rfl) ?_
      refine lv_iload_n hx hb dX0_bendKey_12 rfl (lv_at hl 2 rfl) ?_
      refine lv_aload_n hx hb dX0_bendKey_13 rfl (lv_at hl 0 rfl) ?_
      refine xa_get (C := RX0) (T := TX0) (N := 7) cx hG hP 0 rfl rfl uX0 5 (by decide) lf_X0_41 rfl dX0_bendKey_14 ?_
      refine lv_iconst (v := 0) hx hb dX0_bendKey_17 (by decide) ?_
      refine lv_iconst (v := 2) hx hb dX0_bendKey_18 (by decide) ?_
      refine lv_iconst (v := 4) hx hb dX0_bendKey_19 (by decide) ?_
      refine lv_iload hx hb dX0_bendKey_20 (lv_at hl 4 rfl) ?_
      refine lv_imul hx hb dX0_bendKey_22 ?_
      obtain ⟨r2, hr3, h⟩ := bnd h
      refine ro_l (runVN (As := [.int v2, .int t_plies, .int (0), .int (2), .int (4 * v5)]) (rest := []) hG cx hl.1 (ctX1_totalOf l g a_p1 p1_told p1_lines p1_kinds p1_acts p1_cells v2 t_plies (0) (2) (4 * v5) r2 hr3) kmX1_totalOf kvX1_totalOf nm_72 ⟨rfl, rfl⟩ ⟨Nat.le_of_ble_eq_true rfl, Nat.le_of_ble_eq_true rfl⟩ (roV (q0 := 1) (ci := 1) hG (hP.sub [1, 2] rfl) hP rfl rfl) rfl rfl (Nat.le_of_ble_eq_true rfl) dX0_bendKey_23 ⟨Nat.le_of_ble_eq_true rfl, Nat.le_of_ble_eq_true rfl⟩) ?_
      refine lv_ldc2 (own := RX0) (v := 1048576) hx hb cx.2.2.2.1 (cx.2.2.2.2 _ cl_X0_133) dX0_bendKey_26 ?_
      refine lv_ladd hx hb dX0_bendKey_29 ?_
      refine lv_lstore (lv' := [(6, .long (r2 + 1048576)), (0, .ref ((a_t 0))), (1, .ref ((a_p1 0))), (2, .int v2), (3, .long v3), (5, .int v5)]) hx hb dX0_bendKey_30 hl (by decide) rfl (fun ls hl => ?_)
      refine lv_lload_n hx hb dX0_bendKey_32 rfl (lv_at hl 4 rfl) ?_
      refine lv_bipush (v := 21) hx hb dX0_bendKey_33 (by decide) ?_
      refine lv_lshl (v := lshl v3 21) hx hb dX0_bendKey_35 rfl ?_
      refine lv_lload hx hb dX0_bendKey_36 (lv_at hl 0 rfl) ?_
      refine lv_lor hx hb dX0_bendKey_38 ?_
      refine lv_lstore_n (lv' := [(3, .long ((lshl v3 21) ||| (r2 + 1048576))), (6, .long (r2 + 1048576)), (0, .ref ((a_t 0))), (1, .ref ((a_p1 0))), (2, .int v2), (5, .int v5)]) hx hb dX0_bendKey_39 rfl hl (by decide) rfl (fun ls hl => ?_)
      refine lv_iinc (v := v5 + 1) (lv' := [(5, .int (v5 + 1)), (3, .long ((lshl v3 21) ||| (r2 + 1048576))), (6, .long (r2 + 1048576)), (0, .ref ((a_t 0))), (1, .ref ((a_p1 0))), (2, .int v2)]) hx hb dX0_bendKey_40 hl (k := 5) rfl rfl (by decide) rfl (fun ls hl => ?_)
      refine lv_goto (tgt := 5) hx hb dX0_bendKey_43 (by decide) ?_
      exact ih v2 ((lshl v3 21) ||| (r2 + 1048576)) (v5 + 1) _ (lv_sub hl [3, 4, 5, 1, 0] rfl) h
  unfold fX0_bendKey at h
  refine lv_lconst (v := 0) hx hb dX0_bendKey_0 (by decide) ?_
  refine lv_lstore_n (lv' := [(3, .long (0)), (0, .ref ((a_t 0))), (1, .ref ((a_p1 0))), (2, .int v2)]) hx hb dX0_bendKey_1 rfl hl (by decide) rfl (fun ls hl => ?_)
  refine lv_iconst (v := 0) hx hb dX0_bendKey_2 (by decide) ?_
  refine lv_istore (lv' := [(5, .int (0)), (3, .long (0)), (0, .ref ((a_t 0))), (1, .ref ((a_p1 0))), (2, .int v2)]) hx hb dX0_bendKey_3 hl (by decide) rfl (fun ls hl => ?_)
  exact w5 FU v2 0 0 _ (lv_sub hl [2, 3, 4, 1, 0] rfl) h
-- X0_isNew
theorem dX0_isNew_0 : decode cX0_isNew 0 = .ok (.lload_n 1, 1) := by decide +kernel
theorem dX0_isNew_1 : decode cX0_isNew 1 = .ok (.ldc2_w 135, 3) := by decide +kernel
theorem dX0_isNew_4 : decode cX0_isNew 4 = .ok (.lmul, 1) := by decide +kernel
theorem dX0_isNew_5 : decode cX0_isNew 5 = .ok (.bipush 33, 2) := by decide +kernel
theorem dX0_isNew_7 : decode cX0_isNew 7 = .ok (.lushr, 1) := by decide +kernel
theorem dX0_isNew_8 : decode cX0_isNew 8 = .ok (.l2i, 1) := by decide +kernel
theorem dX0_isNew_9 : decode cX0_isNew 9 = .ok (.istore_n 3, 1) := by decide +kernel
theorem dX0_isNew_10 : decode cX0_isNew 10 = .ok (.iconst 0, 1) := by decide +kernel
theorem dX0_isNew_11 : decode cX0_isNew 11 = .ok (.istore 4, 2) := by decide +kernel
theorem dX0_isNew_13 : decode cX0_isNew 13 = .ok (.iload 4, 2) := by decide +kernel
theorem dX0_isNew_15 : decode cX0_isNew 15 = .ok (.aload_n 0, 1) := by decide +kernel
theorem dX0_isNew_16 : decode cX0_isNew 16 = .ok (.getfield 15, 3) := by decide +kernel
theorem dX0_isNew_19 : decode cX0_isNew 19 = .ok (.arraylength, 1) := by decide +kernel
theorem dX0_isNew_20 : decode cX0_isNew 20 = .ok (.if_icmp .ge 59, 3) := by decide +kernel
theorem dX0_isNew_23 : decode cX0_isNew 23 = .ok (.iload_n 3, 1) := by decide +kernel
theorem dX0_isNew_24 : decode cX0_isNew 24 = .ok (.iload 4, 2) := by decide +kernel
theorem dX0_isNew_26 : decode cX0_isNew 26 = .ok (.iadd, 1) := by decide +kernel
theorem dX0_isNew_27 : decode cX0_isNew 27 = .ok (.aload_n 0, 1) := by decide +kernel
theorem dX0_isNew_28 : decode cX0_isNew 28 = .ok (.getfield 15, 3) := by decide +kernel
theorem dX0_isNew_31 : decode cX0_isNew 31 = .ok (.arraylength, 1) := by decide +kernel
theorem dX0_isNew_32 : decode cX0_isNew 32 = .ok (.iconst 1, 1) := by decide +kernel
theorem dX0_isNew_33 : decode cX0_isNew 33 = .ok (.isub, 1) := by decide +kernel
theorem dX0_isNew_34 : decode cX0_isNew 34 = .ok (.iand, 1) := by decide +kernel
theorem dX0_isNew_35 : decode cX0_isNew 35 = .ok (.istore 5, 2) := by decide +kernel
theorem dX0_isNew_37 : decode cX0_isNew 37 = .ok (.aload_n 0, 1) := by decide +kernel
theorem dX0_isNew_38 : decode cX0_isNew 38 = .ok (.getfield 15, 3) := by decide +kernel
theorem dX0_isNew_41 : decode cX0_isNew 41 = .ok (.iload 5, 2) := by decide +kernel
theorem dX0_isNew_43 : decode cX0_isNew 43 = .ok (.laload, 1) := by decide +kernel
theorem dX0_isNew_44 : decode cX0_isNew 44 = .ok (.lload_n 1, 1) := by decide +kernel
theorem dX0_isNew_45 : decode cX0_isNew 45 = .ok (.lcmp, 1) := by decide +kernel
theorem dX0_isNew_46 : decode cX0_isNew 46 = .ok (.ifCond .ne 5, 3) := by decide +kernel
theorem dX0_isNew_49 : decode cX0_isNew 49 = .ok (.iconst 0, 1) := by decide +kernel
theorem dX0_isNew_50 : decode cX0_isNew 50 = .ok (.ireturn, 1) := by decide +kernel
theorem dX0_isNew_51 : decode cX0_isNew 51 = .ok (.aload_n 0, 1) := by decide +kernel
theorem dX0_isNew_52 : decode cX0_isNew 52 = .ok (.getfield 15, 3) := by decide +kernel
theorem dX0_isNew_55 : decode cX0_isNew 55 = .ok (.iload 5, 2) := by decide +kernel
theorem dX0_isNew_57 : decode cX0_isNew 57 = .ok (.laload, 1) := by decide +kernel
theorem dX0_isNew_58 : decode cX0_isNew 58 = .ok (.lconst 0, 1) := by decide +kernel
theorem dX0_isNew_59 : decode cX0_isNew 59 = .ok (.lcmp, 1) := by decide +kernel
theorem dX0_isNew_60 : decode cX0_isNew 60 = .ok (.ifCond .ne 13, 3) := by decide +kernel
theorem dX0_isNew_63 : decode cX0_isNew 63 = .ok (.aload_n 0, 1) := by decide +kernel
theorem dX0_isNew_64 : decode cX0_isNew 64 = .ok (.getfield 15, 3) := by decide +kernel
theorem dX0_isNew_67 : decode cX0_isNew 67 = .ok (.iload 5, 2) := by decide +kernel
theorem dX0_isNew_69 : decode cX0_isNew 69 = .ok (.lload_n 1, 1) := by decide +kernel
theorem dX0_isNew_70 : decode cX0_isNew 70 = .ok (.lastore, 1) := by decide +kernel
theorem dX0_isNew_71 : decode cX0_isNew 71 = .ok (.iconst 1, 1) := by decide +kernel
theorem dX0_isNew_72 : decode cX0_isNew 72 = .ok (.ireturn, 1) := by decide +kernel
theorem dX0_isNew_73 : decode cX0_isNew 73 = .ok (.iinc 4 1, 3) := by decide +kernel
theorem dX0_isNew_76 : decode cX0_isNew 76 = .ok (.goto (-63), 3) := by decide +kernel
theorem dX0_isNew_79 : decode cX0_isNew 79 = .ok (.iconst 0, 1) := by decide +kernel
theorem dX0_isNew_80 : decode cX0_isNew 80 = .ok (.ireturn, 1) := by decide +kernel
noncomputable def fX0_isNew_63  (t_seen_n : Nat) (t_seen : Nat → Int64) (v1 : Int64) (v5 : Int32) : Option (Int32 × (Nat → Int64)) := chk t_seen_n v5 (some ((1), vp_updL t_seen v5.toNatClampNeg v1))
noncomputable def fX0_isNew_13  : Nat → Nat → (Nat → Int64) → Int64 → Int32 → Int32 → Option (Int32 × (Nat → Int64))
  | 0, _, _, _, _, _ => none
  | n + 1, t_seen_n, t_seen, v1, v3, v4 => (if (nI t_seen_n) ≤ v4 then some ((0), t_seen) else chk t_seen_n ((v3 + v4) &&& ((nI t_seen_n) - 1)) ((if (lg_cmp (t_seen ((v3 + v4) &&& ((nI t_seen_n) - 1)).toNatClampNeg) v1) = 0 then some ((0), t_seen) else chk t_seen_n ((v3 + v4) &&& ((nI t_seen_n) - 1)) ((if (lg_cmp (t_seen ((v3 + v4) &&& ((nI t_seen_n) - 1)).toNatClampNeg) 0) = 0 then fX0_isNew_63 t_seen_n t_seen v1 ((v3 + v4) &&& ((nI t_seen_n) - 1)) else fX0_isNew_13 n t_seen_n t_seen v1 v3 (v4 + 1))))))
theorem fX0_isNew_13_z  (t_seen_n : Nat) (t_seen : Nat → Int64) (v1 : Int64) (v3 : Int32) (v4 : Int32) : fX0_isNew_13  0 t_seen_n t_seen v1 v3 v4 = none := rfl
theorem fX0_isNew_13_s  (n : Nat) (t_seen_n : Nat) (t_seen : Nat → Int64) (v1 : Int64) (v3 : Int32) (v4 : Int32) : fX0_isNew_13  (n + 1) t_seen_n t_seen v1 v3 v4 = (if (nI t_seen_n) ≤ v4 then some ((0), t_seen) else chk t_seen_n ((v3 + v4) &&& ((nI t_seen_n) - 1)) ((if (lg_cmp (t_seen ((v3 + v4) &&& ((nI t_seen_n) - 1)).toNatClampNeg) v1) = 0 then some ((0), t_seen) else chk t_seen_n ((v3 + v4) &&& ((nI t_seen_n) - 1)) ((if (lg_cmp (t_seen ((v3 + v4) &&& ((nI t_seen_n) - 1)).toNatClampNeg) 0) = 0 then fX0_isNew_63 t_seen_n t_seen v1 ((v3 + v4) &&& ((nI t_seen_n) - 1)) else fX0_isNew_13 n t_seen_n t_seen v1 v3 (v4 + 1)))))) := rfl
noncomputable def fX0_isNew  (t_seen_n : Nat) (t_seen : Nat → Int64) (v1 : Int64) : Option (Int32 × (Nat → Int64)) := fX0_isNew_13 FU t_seen_n t_seen v1 ((lushr (v1 * (-7046029254386353131)) 33).toInt32) 0
set_option maxHeartbeats 4000000 in
set_option maxRecDepth 100000 in
theorem ctX0_isNew (l : Launch) (g : GT) (sz : Nat) (a_t : Nat → Nat) (b_t_rows : Nat) (b_t_seen : Nat) (t_size : Int32) (t_ready : Int32) (t_pool : Int32) (t_plies : Int32) (t_room : Int32) (t_seen_n : Nat) (t_seen : Nat → Int64) (v1 : Int64) (o : Int32) (o_t_seen : Nat → Int64) (h : fX0_isNew t_seen_n t_seen v1 = some (o, o_t_seen)) : Met l yX0_isNew (Cond.code yX0_isNew cX0_isNew 6 (some .boolean) :: Tw) ⟨0, 0, 0, 0⟩ (va_Pc [.ref ((a_t 0)), .long v1] (rwB g [((a_t 0), .inr (0, [.ref b_t_rows, .ref b_t_seen, .int t_size, .int t_ready, .int t_pool, .int t_plies, .int t_room])), (b_t_seen, .inl (g.2.2.1 1, t_seen_n, .inr (.inl t_seen)))] sz)) (va_Qi (fun x (_ : Nat → Nat) => x = o ∧ (x = 0 ∨ x = 1)) (fun u => rwE g (va_A [((a_t 0), .inr (0, [.ref b_t_rows, .ref b_t_seen, .int t_size, .int t_ready, .int t_pool, .int t_plies, .int t_room])), (b_t_seen, .inl (g.2.2.1 1, t_seen_n, .inr (.inl t_seen)))] sz) [((a_t 0), .inr (0, [.ref b_t_rows, .ref b_t_seen, .int t_size, .int t_ready, .int t_pool, .int t_plies, .int t_room])), (b_t_seen, .inl (g.2.2.1 1, t_seen_n, .inr (.inl o_t_seen)))]) (va_A [((a_t 0), .inr (0, [.ref b_t_rows, .ref b_t_seen, .int t_size, .int t_ready, .int t_pool, .int t_plies, .int t_room])), (b_t_seen, .inl (g.2.2.1 1, t_seen_n, .inr (.inl t_seen)))] sz)) 0 0 (va_A [((a_t 0), .inr (0, [.ref b_t_rows, .ref b_t_seen, .int t_size, .int t_ready, .int t_pool, .int t_plies, .int t_room])), (b_t_seen, .inl (g.2.2.1 1, t_seen_n, .inr (.inl t_seen)))] sz) := by
  refine rw_metz (by decide) (Nat.le_of_ble_eq_true rfl) (lv0 := [(0, .ref ((a_t 0))), (1, .long v1)]) rfl ?_
  intro p e s m args below meth c ls Q A cx hret hG hAb hb0 hA hP hD hl
  have hx := cx.1
  have hb := cx.2.1
  have hG0 := hG
  have hGk : ∀ {H : Heap} {locs : List Loc}, va_S A s.heap H locs → GE g s H := fun hS => hG0.keptS hAb hS
  have hSb : ∀ {H : Heap} {locs : List Loc}, va_S A s.heap H locs → va_S (fun a => g.1 ≤ a) s.heap H locs := fun hS => ⟨hS.1, fun q h1 h2 => hS.2.1 q h1 (fun z => h2 (hAb q z)), fun l hl => hAb _ (hS.2.2 l hl)⟩
  have hS : va_S A s.heap s.heap [] := va_S.rf
  have w63 : ∀ (t_seen : Nat → Int64) (v1 : Int64) (v5 : Int32) (H : Heap) (locs : List Loc), va_P g.2.1 vwCl [((a_t 0), .inr (0, [.ref b_t_rows, .ref b_t_seen, .int t_size, .int t_ready, .int t_pool, .int t_plies, .int t_room])), (b_t_seen, .inl (g.2.2.1 1, t_seen_n, .inr (.inl t_seen)))] H → va_D A [((a_t 0), .inr (0, [.ref b_t_rows, .ref b_t_seen, .int t_size, .int t_ready, .int t_pool, .int t_plies, .int t_room])), (b_t_seen, .inl (g.2.2.1 1, t_seen_n, .inr (.inl t_seen)))] → va_S A s.heap H locs → ∀ (ls : Array Slot), lv_has ls 6 [(0, .ref ((a_t 0))), (1, .long v1), (5, .int v5)] → fX0_isNew_63  t_seen_n t_seen v1 v5 = some (o, o_t_seen) → W p l e ⟨0, 0, 0, 0⟩ s m args below meth c H locs 0 0 Q (F0 m 63 ls []) := by
    intro t_seen v1 v5 H locs hP hD hS ls hl h
    unfold fX0_isNew_63 at h
    have hG := hGk hS
    refine lv_aload_n hx hb dX0_isNew_63 rfl (lv_at hl 0 rfl) ?_
    refine xa_get (C := RX0) (T := TX0) (N := 7) cx hG hP 0 rfl rfl uX0 1 (by decide) lf_X0_15 rfl dX0_isNew_64 ?_
    refine lv_iload hx hb dX0_isNew_67 (lv_at hl 2 rfl) ?_
    refine lv_lload_n hx hb dX0_isNew_69 rfl (lv_at hl 1 rfl) ?_
    obtain ⟨hi6, h⟩ := chk_out h
    refine xw_last (ws' := [((a_t 0), .inr (0, [.ref b_t_rows, .ref b_t_seen, .int t_size, .int t_ready, .int t_pool, .int t_plies, .int t_room])), (b_t_seen, .inl (g.2.2.1 1, t_seen_n, .inr (.inl (vp_updL t_seen v5.toNatClampNeg v1))))]) (k := v5.toNatClampNeg) cx hG hP hD hS 1 rfl hi6 rfl rfl dX0_isNew_70 (fun H locs hP hD hS => ?_)
    have hG := hGk hS
    refine lv_iconst (v := 1) hx hb dX0_isNew_71 (by decide) ?_
    cases h
    exact hret (fun _ => 0) _ _ _ _ _ dX0_isNew_72 (by decide) rfl (hP.sub [0, 1] rfl) (hD.sub [0, 1] (by decide) rfl) hS
  have w13 : ∀ (n : Nat) (t_seen : Nat → Int64) (v1 : Int64) (v3 : Int32) (v4 : Int32) (H : Heap) (locs : List Loc), va_P g.2.1 vwCl [((a_t 0), .inr (0, [.ref b_t_rows, .ref b_t_seen, .int t_size, .int t_ready, .int t_pool, .int t_plies, .int t_room])), (b_t_seen, .inl (g.2.2.1 1, t_seen_n, .inr (.inl t_seen)))] H → va_D A [((a_t 0), .inr (0, [.ref b_t_rows, .ref b_t_seen, .int t_size, .int t_ready, .int t_pool, .int t_plies, .int t_room])), (b_t_seen, .inl (g.2.2.1 1, t_seen_n, .inr (.inl t_seen)))] → va_S A s.heap H locs → ∀ (ls : Array Slot), lv_has ls 6 [(0, .ref ((a_t 0))), (1, .long v1), (3, .int v3), (4, .int v4)] → fX0_isNew_13  n t_seen_n t_seen v1 v3 v4 = some (o, o_t_seen) → W p l e ⟨0, 0, 0, 0⟩ s m args below meth c H locs 0 0 Q (F0 m 13 ls []) := by
    intro n
    induction n with
    | zero => intro t_seen v1 v3 v4 H locs hP hD hS ls hl h; cases (fX0_isNew_13_z  t_seen_n t_seen v1 v3 v4).symm.trans h
    | succ n ih =>
    intro t_seen v1 v3 v4 H locs hP hD hS ls hl h
    have h := (fX0_isNew_13_s  n t_seen_n t_seen v1 v3 v4).symm.trans h
    have hG := hGk hS
    refine lv_iload hx hb dX0_isNew_13 (lv_at hl 3 rfl) ?_
    refine lv_aload_n hx hb dX0_isNew_15 rfl (lv_at hl 0 rfl) ?_
    refine xa_get (C := RX0) (T := TX0) (N := 7) cx hG hP 0 rfl rfl uX0 1 (by decide) lf_X0_15 rfl dX0_isNew_16 ?_
    refine xa_len cx hG hP 1 rfl 1 rfl (v := nI t_seen_n) rfl dX0_isNew_19 ?_
    refine lv_icmp_ge (tgt := 79) hx hb dX0_isNew_20 (by decide) (fun c1 => ?_) (fun c1 => ?_)
    · have h := itp c1 h
      refine lv_iconst (v := 0) hx hb dX0_isNew_79 (by decide) ?_
      cases h
      exact hret (fun _ => 0) _ _ _ _ _ dX0_isNew_80 (by decide) rfl (hP.sub [0, 1] rfl) (hD.sub [0, 1] (by decide) rfl) hS
    · have h := itn c1 h
      refine lv_iload_n hx hb dX0_isNew_23 rfl (lv_at hl 2 rfl) ?_
      refine lv_iload hx hb dX0_isNew_24 (lv_at hl 3 rfl) ?_
      refine lv_iadd hx hb dX0_isNew_26 ?_
      refine lv_aload_n hx hb dX0_isNew_27 rfl (lv_at hl 0 rfl) ?_
      refine xa_get (C := RX0) (T := TX0) (N := 7) cx hG hP 0 rfl rfl uX0 1 (by decide) lf_X0_15 rfl dX0_isNew_28 ?_
      refine xa_len cx hG hP 1 rfl 1 rfl (v := nI t_seen_n) rfl dX0_isNew_31 ?_
      refine lv_iconst (v := 1) hx hb dX0_isNew_32 (by decide) ?_
      refine lv_isub hx hb dX0_isNew_33 ?_
      refine lv_iand hx hb dX0_isNew_34 ?_
      refine lv_istore (lv' := [(5, .int ((v3 + v4) &&& ((nI t_seen_n) - 1))), (0, .ref ((a_t 0))), (1, .long v1), (3, .int v3), (4, .int v4)]) hx hb dX0_isNew_35 hl (by decide) rfl (fun ls hl => ?_)
      refine lv_aload_n hx hb dX0_isNew_37 rfl (lv_at hl 1 rfl) ?_
      refine xa_get (C := RX0) (T := TX0) (N := 7) cx hG hP 0 rfl rfl uX0 1 (by decide) lf_X0_15 rfl dX0_isNew_38 ?_
      refine lv_iload hx hb dX0_isNew_41 (lv_at hl 0 rfl) ?_
      obtain ⟨hi2, h⟩ := chk_out h
      refine xa_lald cx hG hP 1 rfl hi2 rfl dX0_isNew_43 ?_
      refine lv_lload_n hx hb dX0_isNew_44 rfl (lv_at hl 2 rfl) ?_
      refine W.lcmp hx hb dX0_isNew_45 ?_
      refine lv_if_ne (tgt := 51) hx hb dX0_isNew_46 (by decide) (fun c3 => ?_) (fun c3 => ?_)
      · have h := itn c3 h
        refine lv_aload_n hx hb dX0_isNew_51 rfl (lv_at hl 1 rfl) ?_
        refine xa_get (C := RX0) (T := TX0) (N := 7) cx hG hP 0 rfl rfl uX0 1 (by decide) lf_X0_15 rfl dX0_isNew_52 ?_
        refine lv_iload hx hb dX0_isNew_55 (lv_at hl 0 rfl) ?_
        obtain ⟨hi4, h⟩ := chk_out h
        refine xa_lald cx hG hP 1 rfl hi4 rfl dX0_isNew_57 ?_
        refine lv_lconst (v := 0) hx hb dX0_isNew_58 (by decide) ?_
        refine W.lcmp hx hb dX0_isNew_59 ?_
        refine lv_if_ne (tgt := 73) hx hb dX0_isNew_60 (by decide) (fun c5 => ?_) (fun c5 => ?_)
        · have h := itn c5 h
          refine lv_iinc (v := v4 + 1) (lv' := [(4, .int (v4 + 1)), (5, .int ((v3 + v4) &&& ((nI t_seen_n) - 1))), (0, .ref ((a_t 0))), (1, .long v1), (3, .int v3)]) hx hb dX0_isNew_73 hl (k := 4) rfl rfl (by decide) rfl (fun ls hl => ?_)
          refine lv_goto (tgt := 13) hx hb dX0_isNew_76 (by decide) ?_
          exact ih t_seen v1 v3 (v4 + 1) _ _ hP hD hS _ (lv_sub hl [2, 3, 4, 0] rfl) h
        · have h := itp c5 h
          exact w63 t_seen v1 ((v3 + v4) &&& ((nI t_seen_n) - 1)) _ _ hP hD hS _ (lv_sub hl [1, 2, 0] rfl) h
      · have h := itp c3 h
        refine lv_iconst (v := 0) hx hb dX0_isNew_49 (by decide) ?_
        cases h
        exact hret (fun _ => 0) _ _ _ _ _ dX0_isNew_50 (by decide) rfl (hP.sub [0, 1] rfl) (hD.sub [0, 1] (by decide) rfl) hS
  unfold fX0_isNew at h
  refine lv_lload_n hx hb dX0_isNew_0 rfl (lv_at hl 1 rfl) ?_
  refine lv_ldc2 (own := RX0) (v := -7046029254386353131) hx hb cx.2.2.2.1 (cx.2.2.2.2 _ cl_X0_135) dX0_isNew_1 ?_
  refine lv_lmul hx hb dX0_isNew_4 ?_
  refine lv_bipush (v := 33) hx hb dX0_isNew_5 (by decide) ?_
  refine lv_lushr (v := lushr (v1 * (-7046029254386353131)) 33) hx hb dX0_isNew_7 rfl ?_
  refine lv_l2i (v := (lushr (v1 * (-7046029254386353131)) 33).toInt32) hx hb dX0_isNew_8 rfl ?_
  refine lv_istore_n (lv' := [(3, .int ((lushr (v1 * (-7046029254386353131)) 33).toInt32)), (0, .ref ((a_t 0))), (1, .long v1)]) hx hb dX0_isNew_9 rfl hl (by decide) rfl (fun ls hl => ?_)
  refine lv_iconst (v := 0) hx hb dX0_isNew_10 (by decide) ?_
  refine lv_istore (lv' := [(4, .int (0)), (3, .int ((lushr (v1 * (-7046029254386353131)) 33).toInt32)), (0, .ref ((a_t 0))), (1, .long v1)]) hx hb dX0_isNew_11 hl (by decide) rfl (fun ls hl => ?_)
  exact w13 FU t_seen v1 ((lushr (v1 * (-7046029254386353131)) 33).toInt32) 0 _ _ hP hD hS _ (lv_sub hl [2, 3, 1, 0] rfl) h
-- X0_unlikeBends
theorem dX0_unlikeBends_0 : decode cX0_unlikeBends 0 = .ok (.bipush 32, 2) := by decide +kernel
theorem dX0_unlikeBends_2 : decode cX0_unlikeBends 2 = .ok (.istore_n 3, 1) := by decide +kernel
theorem dX0_unlikeBends_3 : decode cX0_unlikeBends 3 = .ok (.iconst 0, 1) := by decide +kernel
theorem dX0_unlikeBends_4 : decode cX0_unlikeBends 4 = .ok (.istore 4, 2) := by decide +kernel
theorem dX0_unlikeBends_6 : decode cX0_unlikeBends 6 = .ok (.iload 4, 2) := by decide +kernel
theorem dX0_unlikeBends_8 : decode cX0_unlikeBends 8 = .ok (.bipush 12, 2) := by decide +kernel
theorem dX0_unlikeBends_10 : decode cX0_unlikeBends 10 = .ok (.if_icmp .ge 28, 3) := by decide +kernel
theorem dX0_unlikeBends_13 : decode cX0_unlikeBends 13 = .ok (.iload_n 3, 1) := by decide +kernel
theorem dX0_unlikeBends_14 : decode cX0_unlikeBends 14 = .ok (.aload_n 0, 1) := by decide +kernel
theorem dX0_unlikeBends_15 : decode cX0_unlikeBends 15 = .ok (.getfield 49, 3) := by decide +kernel
theorem dX0_unlikeBends_18 : decode cX0_unlikeBends 18 = .ok (.aload_n 0, 1) := by decide +kernel
theorem dX0_unlikeBends_19 : decode cX0_unlikeBends 19 = .ok (.getfield 49, 3) := by decide +kernel
theorem dX0_unlikeBends_22 : decode cX0_unlikeBends 22 = .ok (.iconst 2, 1) := by decide +kernel
theorem dX0_unlikeBends_23 : decode cX0_unlikeBends 23 = .ok (.idiv, 1) := by decide +kernel
theorem dX0_unlikeBends_24 : decode cX0_unlikeBends 24 = .ok (.iadd, 1) := by decide +kernel
theorem dX0_unlikeBends_25 : decode cX0_unlikeBends 25 = .ok (.if_icmp .ge 13, 3) := by decide +kernel
theorem dX0_unlikeBends_28 : decode cX0_unlikeBends 28 = .ok (.iload_n 3, 1) := by decide +kernel
theorem dX0_unlikeBends_29 : decode cX0_unlikeBends 29 = .ok (.iconst 2, 1) := by decide +kernel
theorem dX0_unlikeBends_30 : decode cX0_unlikeBends 30 = .ok (.imul, 1) := by decide +kernel
theorem dX0_unlikeBends_31 : decode cX0_unlikeBends 31 = .ok (.istore_n 3, 1) := by decide +kernel
theorem dX0_unlikeBends_32 : decode cX0_unlikeBends 32 = .ok (.iinc 4 1, 3) := by decide +kernel
theorem dX0_unlikeBends_35 : decode cX0_unlikeBends 35 = .ok (.goto (-29), 3) := by decide +kernel
theorem dX0_unlikeBends_38 : decode cX0_unlikeBends 38 = .ok (.aload_n 0, 1) := by decide +kernel
theorem dX0_unlikeBends_39 : decode cX0_unlikeBends 39 = .ok (.getfield 15, 3) := by decide +kernel
theorem dX0_unlikeBends_42 : decode cX0_unlikeBends 42 = .ok (.arraylength, 1) := by decide +kernel
theorem dX0_unlikeBends_43 : decode cX0_unlikeBends 43 = .ok (.iload_n 3, 1) := by decide +kernel
theorem dX0_unlikeBends_44 : decode cX0_unlikeBends 44 = .ok (.if_icmp .ge 10, 3) := by decide +kernel
theorem dX0_unlikeBends_47 : decode cX0_unlikeBends 47 = .ok (.aload_n 0, 1) := by decide +kernel
theorem dX0_unlikeBends_48 : decode cX0_unlikeBends 48 = .ok (.iload_n 3, 1) := by decide +kernel
theorem dX0_unlikeBends_49 : decode cX0_unlikeBends 49 = .ok (.newarray .long, 2) := by decide +kernel
theorem dX0_unlikeBends_51 : decode cX0_unlikeBends 51 = .ok (.putfield 15, 3) := by decide +kernel
theorem dX0_unlikeBends_54 : decode cX0_unlikeBends 54 = .ok (.aload_n 0, 1) := by decide +kernel
theorem dX0_unlikeBends_55 : decode cX0_unlikeBends 55 = .ok (.getfield 15, 3) := by decide +kernel
theorem dX0_unlikeBends_58 : decode cX0_unlikeBends 58 = .ok (.lconst 0, 1) := by decide +kernel
theorem dX0_unlikeBends_59 : decode cX0_unlikeBends 59 = .ok (.invokestatic 119, 3) := by decide +kernel
theorem dX0_unlikeBends_62 : decode cX0_unlikeBends 62 = .ok (.iconst 0, 1) := by decide +kernel
theorem dX0_unlikeBends_63 : decode cX0_unlikeBends 63 = .ok (.istore 4, 2) := by decide +kernel
theorem dX0_unlikeBends_65 : decode cX0_unlikeBends 65 = .ok (.iconst 0, 1) := by decide +kernel
theorem dX0_unlikeBends_66 : decode cX0_unlikeBends 66 = .ok (.istore 5, 2) := by decide +kernel
theorem dX0_unlikeBends_68 : decode cX0_unlikeBends 68 = .ok (.iload 5, 2) := by decide +kernel
theorem dX0_unlikeBends_70 : decode cX0_unlikeBends 70 = .ok (.aload_n 0, 1) := by decide +kernel
theorem dX0_unlikeBends_71 : decode cX0_unlikeBends 71 = .ok (.getfield 49, 3) := by decide +kernel
theorem dX0_unlikeBends_74 : decode cX0_unlikeBends 74 = .ok (.if_icmp .ge 40, 3) := by decide +kernel
theorem dX0_unlikeBends_77 : decode cX0_unlikeBends 77 = .ok (.aload_n 0, 1) := by decide +kernel
theorem dX0_unlikeBends_78 : decode cX0_unlikeBends 78 = .ok (.iload_n 2, 1) := by decide +kernel
theorem dX0_unlikeBends_79 : decode cX0_unlikeBends 79 = .ok (.iload 5, 2) := by decide +kernel
theorem dX0_unlikeBends_81 : decode cX0_unlikeBends 81 = .ok (.invokevirtual 98, 3) := by decide +kernel
theorem dX0_unlikeBends_84 : decode cX0_unlikeBends 84 = .ok (.ifCond .eq 24, 3) := by decide +kernel
theorem dX0_unlikeBends_87 : decode cX0_unlikeBends 87 = .ok (.aload_n 0, 1) := by decide +kernel
theorem dX0_unlikeBends_88 : decode cX0_unlikeBends 88 = .ok (.aload_n 0, 1) := by decide +kernel
theorem dX0_unlikeBends_89 : decode cX0_unlikeBends 89 = .ok (.aload_n 1, 1) := by decide +kernel
theorem dX0_unlikeBends_90 : decode cX0_unlikeBends 90 = .ok (.aload_n 0, 1) := by decide +kernel
theorem dX0_unlikeBends_91 : decode cX0_unlikeBends 91 = .ok (.iload 5, 2) := by decide +kernel
theorem dX0_unlikeBends_93 : decode cX0_unlikeBends 93 = .ok (.invokevirtual 101, 3) := by decide +kernel
theorem dX0_unlikeBends_96 : decode cX0_unlikeBends 96 = .ok (.invokevirtual 125, 3) := by decide +kernel
theorem dX0_unlikeBends_99 : decode cX0_unlikeBends 99 = .ok (.invokevirtual 129, 3) := by decide +kernel
theorem dX0_unlikeBends_102 : decode cX0_unlikeBends 102 = .ok (.ifCond .eq 6, 3) := by decide +kernel
theorem dX0_unlikeBends_105 : decode cX0_unlikeBends 105 = .ok (.iinc 4 1, 3) := by decide +kernel
theorem dX0_unlikeBends_108 : decode cX0_unlikeBends 108 = .ok (.iinc 5 1, 3) := by decide +kernel
theorem dX0_unlikeBends_111 : decode cX0_unlikeBends 111 = .ok (.goto (-43), 3) := by decide +kernel
theorem dX0_unlikeBends_114 : decode cX0_unlikeBends 114 = .ok (.iload 4, 2) := by decide +kernel
theorem dX0_unlikeBends_116 : decode cX0_unlikeBends 116 = .ok (.ireturn, 1) := by decide +kernel
noncomputable def fX0_unlikeBends_108 (lim0 : Nat) (k68 : Nat → (Nat → Int64) → Nat → (Nat → Int64) → Int32 → Int32 → (Nat → Int32) → Int32 → Int32 → Int32 → Option (Int32 × Nat × (Nat → Int64))) (t_rows_n : Nat) (t_rows : Nat → Int64) (t_seen_n : Nat) (t_seen : Nat → Int64) (t_size : Int32) (t_plies : Int32) (p1_cells : Nat → Int32) (v2 : Int32) (v4 : Int32) (v5 : Int32) : Option (Int32 × Nat × (Nat → Int64)) := k68 t_rows_n t_rows t_seen_n t_seen t_size t_plies p1_cells v2 v4 (v5 + 1)
noncomputable def fX0_unlikeBends_68 (lim0 : Nat)  : Nat → Nat → (Nat → Int64) → Nat → (Nat → Int64) → Int32 → Int32 → (Nat → Int32) → Int32 → Int32 → Int32 → Option (Int32 × Nat × (Nat → Int64))
  | 0, _, _, _, _, _, _, _, _, _, _ => none
  | n + 1, t_rows_n, t_rows, t_seen_n, t_seen, t_size, t_plies, p1_cells, v2, v4, v5 => (if t_size ≤ v5 then some (v4, t_seen_n, t_seen) else (fX0_isAmong t_rows_n t_rows v2 v5).bind fun r9 => (if r9 = 0 then fX0_unlikeBends_108 lim0 (fX0_unlikeBends_68 lim0 n) t_rows_n t_rows t_seen_n t_seen t_size t_plies p1_cells v2 v4 v5 else (fX0_rowAt t_rows_n t_rows v5).bind fun r13 => (fX0_bendKey t_plies p1_cells r13).bind fun r15 => ob2 (fX0_isNew t_seen_n t_seen r15) fun r18 w19 => (if r18 = 0 then fX0_unlikeBends_108 lim0 (fX0_unlikeBends_68 lim0 n) t_rows_n t_rows t_seen_n w19 t_size t_plies p1_cells v2 v4 v5 else fX0_unlikeBends_108 lim0 (fX0_unlikeBends_68 lim0 n) t_rows_n t_rows t_seen_n w19 t_size t_plies p1_cells v2 (v4 + 1) v5)))
theorem fX0_unlikeBends_68_z (lim0 : Nat)  (t_rows_n : Nat) (t_rows : Nat → Int64) (t_seen_n : Nat) (t_seen : Nat → Int64) (t_size : Int32) (t_plies : Int32) (p1_cells : Nat → Int32) (v2 : Int32) (v4 : Int32) (v5 : Int32) : fX0_unlikeBends_68 lim0  0 t_rows_n t_rows t_seen_n t_seen t_size t_plies p1_cells v2 v4 v5 = none := rfl
theorem fX0_unlikeBends_68_s (lim0 : Nat)  (n : Nat) (t_rows_n : Nat) (t_rows : Nat → Int64) (t_seen_n : Nat) (t_seen : Nat → Int64) (t_size : Int32) (t_plies : Int32) (p1_cells : Nat → Int32) (v2 : Int32) (v4 : Int32) (v5 : Int32) : fX0_unlikeBends_68 lim0  (n + 1) t_rows_n t_rows t_seen_n t_seen t_size t_plies p1_cells v2 v4 v5 = (if t_size ≤ v5 then some (v4, t_seen_n, t_seen) else (fX0_isAmong t_rows_n t_rows v2 v5).bind fun r9 => (if r9 = 0 then fX0_unlikeBends_108 lim0 (fX0_unlikeBends_68 lim0 n) t_rows_n t_rows t_seen_n t_seen t_size t_plies p1_cells v2 v4 v5 else (fX0_rowAt t_rows_n t_rows v5).bind fun r13 => (fX0_bendKey t_plies p1_cells r13).bind fun r15 => ob2 (fX0_isNew t_seen_n t_seen r15) fun r18 w19 => (if r18 = 0 then fX0_unlikeBends_108 lim0 (fX0_unlikeBends_68 lim0 n) t_rows_n t_rows t_seen_n w19 t_size t_plies p1_cells v2 v4 v5 else fX0_unlikeBends_108 lim0 (fX0_unlikeBends_68 lim0 n) t_rows_n t_rows t_seen_n w19 t_size t_plies p1_cells v2 (v4 + 1) v5))) := rfl
noncomputable def fX0_unlikeBends_54 (lim0 : Nat)  (t_rows_n : Nat) (t_rows : Nat → Int64) (t_seen_n : Nat) (t_seen : Nat → Int64) (t_size : Int32) (t_plies : Int32) (p1_cells : Nat → Int32) (v2 : Int32) : Option (Int32 × Nat × (Nat → Int64)) := (fJ7_fill_d0a16 t_seen_n t_seen 0).bind fun w6 => fX0_unlikeBends_68 lim0 FU t_rows_n t_rows t_seen_n w6 t_size t_plies p1_cells v2 0 0
noncomputable def fX0_unlikeBends_38 (lim0 : Nat)  (t_rows_n : Nat) (t_rows : Nat → Int64) (t_seen_n : Nat) (t_seen : Nat → Int64) (t_size : Int32) (t_plies : Int32) (p1_cells : Nat → Int32) (v2 : Int32) (v3 : Int32) : Option (Int32 × Nat × (Nat → Int64)) := (if v3 ≤ (nI t_seen_n) then fX0_unlikeBends_54 lim0 t_rows_n t_rows t_seen_n t_seen t_size t_plies p1_cells v2 else nn lim0 v3 (fX0_unlikeBends_54 lim0 t_rows_n t_rows v3.toNatClampNeg (fun _ => 0) t_size t_plies p1_cells v2))
noncomputable def fX0_unlikeBends_6 (lim0 : Nat)  : Nat → Nat → (Nat → Int64) → Nat → (Nat → Int64) → Int32 → Int32 → (Nat → Int32) → Int32 → Int32 → Int32 → Option (Int32 × Nat × (Nat → Int64))
  | 0, _, _, _, _, _, _, _, _, _, _ => none
  | n + 1, t_rows_n, t_rows, t_seen_n, t_seen, t_size, t_plies, p1_cells, v2, v3, v4 => (if 12 ≤ v4 then fX0_unlikeBends_38 lim0 t_rows_n t_rows t_seen_n t_seen t_size t_plies p1_cells v2 v3 else (if (t_size + (t_size / 2)) ≤ v3 then fX0_unlikeBends_38 lim0 t_rows_n t_rows t_seen_n t_seen t_size t_plies p1_cells v2 v3 else fX0_unlikeBends_6 lim0 n t_rows_n t_rows t_seen_n t_seen t_size t_plies p1_cells v2 (v3 * 2) (v4 + 1)))
theorem fX0_unlikeBends_6_z (lim0 : Nat)  (t_rows_n : Nat) (t_rows : Nat → Int64) (t_seen_n : Nat) (t_seen : Nat → Int64) (t_size : Int32) (t_plies : Int32) (p1_cells : Nat → Int32) (v2 : Int32) (v3 : Int32) (v4 : Int32) : fX0_unlikeBends_6 lim0  0 t_rows_n t_rows t_seen_n t_seen t_size t_plies p1_cells v2 v3 v4 = none := rfl
theorem fX0_unlikeBends_6_s (lim0 : Nat)  (n : Nat) (t_rows_n : Nat) (t_rows : Nat → Int64) (t_seen_n : Nat) (t_seen : Nat → Int64) (t_size : Int32) (t_plies : Int32) (p1_cells : Nat → Int32) (v2 : Int32) (v3 : Int32) (v4 : Int32) : fX0_unlikeBends_6 lim0  (n + 1) t_rows_n t_rows t_seen_n t_seen t_size t_plies p1_cells v2 v3 v4 = (if 12 ≤ v4 then fX0_unlikeBends_38 lim0 t_rows_n t_rows t_seen_n t_seen t_size t_plies p1_cells v2 v3 else (if (t_size + (t_size / 2)) ≤ v3 then fX0_unlikeBends_38 lim0 t_rows_n t_rows t_seen_n t_seen t_size t_plies p1_cells v2 v3 else fX0_unlikeBends_6 lim0 n t_rows_n t_rows t_seen_n t_seen t_size t_plies p1_cells v2 (v3 * 2) (v4 + 1))) := rfl
noncomputable def fX0_unlikeBends (lim0 : Nat)  (t_rows_n : Nat) (t_rows : Nat → Int64) (t_seen_n : Nat) (t_seen : Nat → Int64) (t_size : Int32) (t_plies : Int32) (p1_cells : Nat → Int32) (v2 : Int32) : Option (Int32 × Nat × (Nat → Int64)) := fX0_unlikeBends_6 lim0 FU t_rows_n t_rows t_seen_n t_seen t_size t_plies p1_cells v2 32 0
set_option maxHeartbeats 4000000 in
set_option maxRecDepth 100000 in
theorem ctX0_unlikeBends (l : Launch) (g : GT) (lim0 : Nat) (sz : Nat) (a_t : Nat → Nat) (b_t_rows : Nat) (b_t_seen : Nat) (a_p1 : Nat → Nat) (t_size : Int32) (t_ready : Int32) (t_pool : Int32) (t_plies : Int32) (t_room : Int32) (t_rows_n : Nat) (t_rows : Nat → Int64) (t_seen_n : Nat) (t_seen : Nat → Int64) (p1_told : Int32) (p1_lines : Int32) (p1_kinds : Int32) (p1_acts : Int32) (p1_cells : Nat → Int32) (v2 : Int32) (o : Int32) (o_t_seen_n : Nat) (o_t_seen : Nat → Int64) (h : fX0_unlikeBends lim0 t_rows_n t_rows t_seen_n t_seen t_size t_plies p1_cells v2 = some (o, o_t_seen_n, o_t_seen)) : Met l yX0_unlikeBends (Cond.code yX0_unlikeBends cX0_unlikeBends 6 (some .int) :: Tw) ⟨3, 1, lim0, 77⟩ (va_Pc [.ref ((a_t 0)), .ref ((a_p1 0)), .int v2] (rwB g [((a_t 0), .inr (0, [.ref b_t_rows, .ref b_t_seen, .int t_size, .int t_ready, .int t_pool, .int t_plies, .int t_room])), (b_t_rows, .inl (g.2.2.1 1, t_rows_n, .inr (.inl t_rows))), (b_t_seen, .inl (g.2.2.1 1, t_seen_n, .inr (.inl t_seen))), ((a_p1 0), .inr (1, [.ref (a_p1 1), .ref (a_p1 2), .ref (a_p1 3), .ref (a_p1 4), .ref (a_p1 5), .int p1_told, .int p1_lines, .int p1_kinds, .int p1_acts])), ((a_p1 2), .inl (g.2.2.1 0, 144, .inl p1_cells))] sz)) (va_Qi (fun x (_ : Nat → Nat) => x = o) (fun u => rwE g (va_A [((a_t 0), .inr (0, [.ref b_t_rows, .ref b_t_seen, .int t_size, .int t_ready, .int t_pool, .int t_plies, .int t_room])), (b_t_rows, .inl (g.2.2.1 1, t_rows_n, .inr (.inl t_rows))), (b_t_seen, .inl (g.2.2.1 1, t_seen_n, .inr (.inl t_seen))), ((a_p1 0), .inr (1, [.ref (a_p1 1), .ref (a_p1 2), .ref (a_p1 3), .ref (a_p1 4), .ref (a_p1 5), .int p1_told, .int p1_lines, .int p1_kinds, .int p1_acts])), ((a_p1 2), .inl (g.2.2.1 0, 144, .inl p1_cells))] sz) [((a_t 0), .inr (0, [.ref b_t_rows, .ref (u 0), .int t_size, .int t_ready, .int t_pool, .int t_plies, .int t_room])), (b_t_rows, .inl (g.2.2.1 1, t_rows_n, .inr (.inl t_rows))), ((u 0), .inl (g.2.2.1 1, o_t_seen_n, .inr (.inl o_t_seen))), ((a_p1 0), .inr (1, [.ref (a_p1 1), .ref (a_p1 2), .ref (a_p1 3), .ref (a_p1 4), .ref (a_p1 5), .int p1_told, .int p1_lines, .int p1_kinds, .int p1_acts])), ((a_p1 2), .inl (g.2.2.1 0, 144, .inl p1_cells))]) (va_A [((a_t 0), .inr (0, [.ref b_t_rows, .ref b_t_seen, .int t_size, .int t_ready, .int t_pool, .int t_plies, .int t_room])), (b_t_rows, .inl (g.2.2.1 1, t_rows_n, .inr (.inl t_rows))), (b_t_seen, .inl (g.2.2.1 1, t_seen_n, .inr (.inl t_seen))), ((a_p1 0), .inr (1, [.ref (a_p1 1), .ref (a_p1 2), .ref (a_p1 3), .ref (a_p1 4), .ref (a_p1 5), .int p1_told, .int p1_lines, .int p1_kinds, .int p1_acts])), ((a_p1 2), .inl (g.2.2.1 0, 144, .inl p1_cells))] sz)) 1 lim0 (va_A [((a_t 0), .inr (0, [.ref b_t_rows, .ref b_t_seen, .int t_size, .int t_ready, .int t_pool, .int t_plies, .int t_room])), (b_t_rows, .inl (g.2.2.1 1, t_rows_n, .inr (.inl t_rows))), (b_t_seen, .inl (g.2.2.1 1, t_seen_n, .inr (.inl t_seen))), ((a_p1 0), .inr (1, [.ref (a_p1 1), .ref (a_p1 2), .ref (a_p1 3), .ref (a_p1 4), .ref (a_p1 5), .int p1_told, .int p1_lines, .int p1_kinds, .int p1_acts])), ((a_p1 2), .inl (g.2.2.1 0, 144, .inl p1_cells))] sz) := by
  refine rw_meti (by decide) (Nat.le_of_ble_eq_true rfl) (lv0 := [(0, .ref ((a_t 0))), (1, .ref ((a_p1 0))), (2, .int v2)]) rfl ?_
  intro p e s m args below meth c ls Q A cx hret hG hAb hb0 hA hP hD hl
  have hx := cx.1
  have hb := cx.2.1
  have hG0 := hG
  have hGk : ∀ {H : Heap} {locs : List Loc}, va_S A s.heap H locs → GE g s H := fun hS => hG0.keptS hAb hS
  have hSb : ∀ {H : Heap} {locs : List Loc}, va_S A s.heap H locs → va_S (fun a => g.1 ≤ a) s.heap H locs := fun hS => ⟨hS.1, fun q h1 h2 => hS.2.1 q h1 (fun z => h2 (hAb q z)), fun l hl => hAb _ (hS.2.2 l hl)⟩
  have hS : va_S A s.heap s.heap [] := va_S.rf
  have w108 : ∀ (k68 : Nat → (Nat → Int64) → Nat → (Nat → Int64) → Int32 → Int32 → (Nat → Int32) → Int32 → Int32 → Int32 → Option (Int32 × Nat × (Nat → Int64))) (hk68 : ∀ (t_seen_n : Nat) (t_seen : Nat → Int64) (b_t_seen : Nat) (v2 : Int32) (v4 : Int32) (v5 : Int32) (H : Heap) (locs : List Loc), va_P g.2.1 vwCl [((a_t 0), .inr (0, [.ref b_t_rows, .ref b_t_seen, .int t_size, .int t_ready, .int t_pool, .int t_plies, .int t_room])), (b_t_rows, .inl (g.2.2.1 1, t_rows_n, .inr (.inl t_rows))), (b_t_seen, .inl (g.2.2.1 1, t_seen_n, .inr (.inl t_seen))), ((a_p1 0), .inr (1, [.ref (a_p1 1), .ref (a_p1 2), .ref (a_p1 3), .ref (a_p1 4), .ref (a_p1 5), .int p1_told, .int p1_lines, .int p1_kinds, .int p1_acts])), ((a_p1 2), .inl (g.2.2.1 0, 144, .inl p1_cells))] H → va_D A [((a_t 0), .inr (0, [.ref b_t_rows, .ref b_t_seen, .int t_size, .int t_ready, .int t_pool, .int t_plies, .int t_room])), (b_t_rows, .inl (g.2.2.1 1, t_rows_n, .inr (.inl t_rows))), (b_t_seen, .inl (g.2.2.1 1, t_seen_n, .inr (.inl t_seen))), ((a_p1 0), .inr (1, [.ref (a_p1 1), .ref (a_p1 2), .ref (a_p1 3), .ref (a_p1 4), .ref (a_p1 5), .int p1_told, .int p1_lines, .int p1_kinds, .int p1_acts])), ((a_p1 2), .inl (g.2.2.1 0, 144, .inl p1_cells))] → va_S A s.heap H locs → ∀ (ls : Array Slot), lv_has ls 6 [(0, .ref ((a_t 0))), (1, .ref ((a_p1 0))), (2, .int v2), (4, .int v4), (5, .int v5)] → k68 t_rows_n t_rows t_seen_n t_seen t_size t_plies p1_cells v2 v4 v5 = some (o, o_t_seen_n, o_t_seen) → W p l e ⟨3, 1, lim0, 77⟩ s m args below meth c H locs 1 lim0 Q (F0 m 68 ls [])) (t_seen_n : Nat) (t_seen : Nat → Int64) (b_t_seen : Nat) (v2 : Int32) (v4 : Int32) (v5 : Int32) (H : Heap) (locs : List Loc), va_P g.2.1 vwCl [((a_t 0), .inr (0, [.ref b_t_rows, .ref b_t_seen, .int t_size, .int t_ready, .int t_pool, .int t_plies, .int t_room])), (b_t_rows, .inl (g.2.2.1 1, t_rows_n, .inr (.inl t_rows))), (b_t_seen, .inl (g.2.2.1 1, t_seen_n, .inr (.inl t_seen))), ((a_p1 0), .inr (1, [.ref (a_p1 1), .ref (a_p1 2), .ref (a_p1 3), .ref (a_p1 4), .ref (a_p1 5), .int p1_told, .int p1_lines, .int p1_kinds, .int p1_acts])), ((a_p1 2), .inl (g.2.2.1 0, 144, .inl p1_cells))] H → va_D A [((a_t 0), .inr (0, [.ref b_t_rows, .ref b_t_seen, .int t_size, .int t_ready, .int t_pool, .int t_plies, .int t_room])), (b_t_rows, .inl (g.2.2.1 1, t_rows_n, .inr (.inl t_rows))), (b_t_seen, .inl (g.2.2.1 1, t_seen_n, .inr (.inl t_seen))), ((a_p1 0), .inr (1, [.ref (a_p1 1), .ref (a_p1 2), .ref (a_p1 3), .ref (a_p1 4), .ref (a_p1 5), .int p1_told, .int p1_lines, .int p1_kinds, .int p1_acts])), ((a_p1 2), .inl (g.2.2.1 0, 144, .inl p1_cells))] → va_S A s.heap H locs → ∀ (ls : Array Slot), lv_has ls 6 [(0, .ref ((a_t 0))), (1, .ref ((a_p1 0))), (2, .int v2), (4, .int v4), (5, .int v5)] → fX0_unlikeBends_108 lim0 k68 t_rows_n t_rows t_seen_n t_seen t_size t_plies p1_cells v2 v4 v5 = some (o, o_t_seen_n, o_t_seen) → W p l e ⟨3, 1, lim0, 77⟩ s m args below meth c H locs 1 lim0 Q (F0 m 108 ls []) := by
    intro k68 hk68 t_seen_n t_seen b_t_seen v2 v4 v5 H locs hP hD hS ls hl h
    unfold fX0_unlikeBends_108 at h
    have hG := hGk hS
    refine lv_iinc (v := v5 + 1) (lv' := [(5, .int (v5 + 1)), (0, .ref ((a_t 0))), (1, .ref ((a_p1 0))), (2, .int v2), (4, .int v4)]) hx hb dX0_unlikeBends_108 hl (k := 4) rfl rfl (by decide) rfl (fun ls hl => ?_)
    refine lv_goto (tgt := 68) hx hb dX0_unlikeBends_111 (by decide) ?_
    exact hk68 t_seen_n t_seen b_t_seen v2 v4 (v5 + 1) _ _ hP hD hS _ (lv_sub hl [1, 2, 3, 4, 0] rfl) h
  have w68 : ∀ (n : Nat) (t_seen_n : Nat) (t_seen : Nat → Int64) (b_t_seen : Nat) (v2 : Int32) (v4 : Int32) (v5 : Int32) (H : Heap) (locs : List Loc), va_P g.2.1 vwCl [((a_t 0), .inr (0, [.ref b_t_rows, .ref b_t_seen, .int t_size, .int t_ready, .int t_pool, .int t_plies, .int t_room])), (b_t_rows, .inl (g.2.2.1 1, t_rows_n, .inr (.inl t_rows))), (b_t_seen, .inl (g.2.2.1 1, t_seen_n, .inr (.inl t_seen))), ((a_p1 0), .inr (1, [.ref (a_p1 1), .ref (a_p1 2), .ref (a_p1 3), .ref (a_p1 4), .ref (a_p1 5), .int p1_told, .int p1_lines, .int p1_kinds, .int p1_acts])), ((a_p1 2), .inl (g.2.2.1 0, 144, .inl p1_cells))] H → va_D A [((a_t 0), .inr (0, [.ref b_t_rows, .ref b_t_seen, .int t_size, .int t_ready, .int t_pool, .int t_plies, .int t_room])), (b_t_rows, .inl (g.2.2.1 1, t_rows_n, .inr (.inl t_rows))), (b_t_seen, .inl (g.2.2.1 1, t_seen_n, .inr (.inl t_seen))), ((a_p1 0), .inr (1, [.ref (a_p1 1), .ref (a_p1 2), .ref (a_p1 3), .ref (a_p1 4), .ref (a_p1 5), .int p1_told, .int p1_lines, .int p1_kinds, .int p1_acts])), ((a_p1 2), .inl (g.2.2.1 0, 144, .inl p1_cells))] → va_S A s.heap H locs → ∀ (ls : Array Slot), lv_has ls 6 [(0, .ref ((a_t 0))), (1, .ref ((a_p1 0))), (2, .int v2), (4, .int v4), (5, .int v5)] → fX0_unlikeBends_68 lim0  n t_rows_n t_rows t_seen_n t_seen t_size t_plies p1_cells v2 v4 v5 = some (o, o_t_seen_n, o_t_seen) → W p l e ⟨3, 1, lim0, 77⟩ s m args below meth c H locs 1 lim0 Q (F0 m 68 ls []) := by
    intro n
    induction n with
    | zero => intro t_seen_n t_seen b_t_seen v2 v4 v5 H locs hP hD hS ls hl h; cases (fX0_unlikeBends_68_z lim0  t_rows_n t_rows t_seen_n t_seen t_size t_plies p1_cells v2 v4 v5).symm.trans h
    | succ n ih =>
    intro t_seen_n t_seen b_t_seen v2 v4 v5 H locs hP hD hS ls hl h
    have h := (fX0_unlikeBends_68_s lim0  n t_rows_n t_rows t_seen_n t_seen t_size t_plies p1_cells v2 v4 v5).symm.trans h
    have hG := hGk hS
    refine lv_iload hx hb dX0_unlikeBends_68 (lv_at hl 4 rfl) ?_
    refine lv_aload_n hx hb dX0_unlikeBends_70 rfl (lv_at hl 0 rfl) ?_
    refine xa_get (C := RX0) (T := TX0) (N := 7) cx hG hP 0 rfl rfl uX0 2 (by decide) lf_X0_49 rfl dX0_unlikeBends_71 ?_
    refine lv_icmp_ge (tgt := 114) hx hb dX0_unlikeBends_74 (by decide) (fun c8 => ?_) (fun c8 => ?_)
    · have h := itp c8 h
      refine lv_iload hx hb dX0_unlikeBends_114 (lv_at hl 3 rfl) ?_
      cases h
      exact hret (fun _ => b_t_seen) _ _ _ _ _ dX0_unlikeBends_116 rfl (hP.sub [0, 1, 2, 3, 4] rfl) (hD.sub [0, 1, 2, 3, 4] (by decide) rfl) hS
    · have h := itn c8 h
      refine lv_aload_n hx hb dX0_unlikeBends_77 rfl (lv_at hl 0 rfl) ?_
      refine lv_iload_n hx hb dX0_unlikeBends_78 rfl (lv_at hl 2 rfl) ?_
      refine lv_iload hx hb dX0_unlikeBends_79 (lv_at hl 4 rfl) ?_
      obtain ⟨r9, hr10, h⟩ := bnd h
      refine ro_z (runV (As := [.int v2, .int v5]) (rest := []) cx hl.1 (ctX0_isAmong l g a_t b_t_rows b_t_seen t_size t_ready t_pool t_plies t_room t_rows_n t_rows v2 v5 r9 hr10) kmX0_isAmong kvX0_isAmong lm_X0_98 ⟨rfl, rfl⟩ ⟨Nat.le_of_ble_eq_true rfl, Nat.le_of_ble_eq_true rfl⟩ (roV (q0 := 0) (ci := 0) hG (hP.sub [0, 1] rfl) hP rfl rfl) rfl rfl (Nat.le_of_ble_eq_true rfl) dX0_unlikeBends_81 ⟨Nat.le_of_ble_eq_true rfl, (show (lim0 + 0 : Nat) ≤ lim0 by omega)⟩) (fun hz11 => ?_)
      refine lv_if_eq (tgt := 108) hx hb dX0_unlikeBends_84 (by decide) (fun c12 => ?_) (fun c12 => ?_)
      · have h := itp c12 h
        exact w108 _ ih t_seen_n t_seen b_t_seen v2 v4 v5 _ _ hP hD hS _ (lv_sub hl [0, 1, 2, 3, 4] rfl) h
      · have h := itn c12 h
        refine lv_aload_n hx hb dX0_unlikeBends_87 rfl (lv_at hl 0 rfl) ?_
        refine lv_aload_n hx hb dX0_unlikeBends_88 rfl (lv_at hl 0 rfl) ?_
        refine lv_aload_n hx hb dX0_unlikeBends_89 rfl (lv_at hl 1 rfl) ?_
        refine lv_aload_n hx hb dX0_unlikeBends_90 rfl (lv_at hl 0 rfl) ?_
        refine lv_iload hx hb dX0_unlikeBends_91 (lv_at hl 4 rfl) ?_
        obtain ⟨r13, hr14, h⟩ := bnd h
        refine ro_i (runV (As := [.int v5]) (rest := [.ref ((a_p1 0)), .ref ((a_t 0)), .ref ((a_t 0))]) cx hl.1 (ctX0_rowAt l g a_t b_t_rows b_t_seen t_size t_ready t_pool t_plies t_room t_rows_n t_rows v5 r13 hr14) kmX0_rowAt kvX0_rowAt lm_X0_101 ⟨rfl, rfl⟩ ⟨Nat.le_of_ble_eq_true rfl, Nat.le_of_ble_eq_true rfl⟩ (roV (q0 := 0) (ci := 0) hG (hP.sub [0, 1] rfl) hP rfl rfl) rfl rfl (Nat.le_of_ble_eq_true rfl) dX0_unlikeBends_93 ⟨Nat.le_of_ble_eq_true rfl, (show (lim0 + 0 : Nat) ≤ lim0 by omega)⟩) ?_
        obtain ⟨r15, hr16, h⟩ := bnd h
        refine ro_l (runV (As := [.ref ((a_p1 0)), .int r13]) (rest := [.ref ((a_t 0))]) cx hl.1 (ctX0_bendKey l g a_t b_t_rows b_t_seen a_p1 t_size t_ready t_pool t_plies t_room p1_told p1_lines p1_kinds p1_acts p1_cells r13 r15 hr16) kmX0_bendKey kvX0_bendKey lm_X0_125 ⟨rfl, rfl⟩ ⟨Nat.le_of_ble_eq_true rfl, Nat.le_of_ble_eq_true rfl⟩ (roV (q0 := 0) (ci := 0) hG (hP.sub [0, 3, 4] rfl) hP rfl rfl) rfl rfl (Nat.le_of_ble_eq_true rfl) dX0_unlikeBends_96 ⟨Nat.le_of_ble_eq_true rfl, (show (lim0 + 0 : Nat) ≤ lim0 by omega)⟩) ?_
        obtain ⟨r18, w19, hr17, h⟩ := ob2_out h
        refine rw_z (WN := fun u20 => [(b_t_rows, .inl (g.2.2.1 1, t_rows_n, .inr (.inl t_rows))), ((a_p1 0), .inr (1, [.ref (a_p1 1), .ref (a_p1 2), .ref (a_p1 3), .ref (a_p1 4), .ref (a_p1 5), .int p1_told, .int p1_lines, .int p1_kinds, .int p1_acts])), ((a_p1 2), .inl (g.2.2.1 0, 144, .inl p1_cells)), ((a_t 0), .inr (0, [.ref b_t_rows, .ref b_t_seen, .int t_size, .int t_ready, .int t_pool, .int t_plies, .int t_room])), (b_t_seen, .inl (g.2.2.1 1, t_seen_n, .inr (.inl w19)))]) (wr := [(b_t_rows, .inl (g.2.2.1 1, t_rows_n, .inr (.inl t_rows))), ((a_p1 0), .inr (1, [.ref (a_p1 1), .ref (a_p1 2), .ref (a_p1 3), .ref (a_p1 4), .ref (a_p1 5), .int p1_told, .int p1_lines, .int p1_kinds, .int p1_acts])), ((a_p1 2), .inl (g.2.2.1 0, 144, .inl p1_cells))]) (runV (As := [.long r15]) (rest := []) cx hl.1 (ctX0_isNew l g H.size a_t b_t_rows b_t_seen t_size t_ready t_pool t_plies t_room t_seen_n t_seen r15 r18 w19 hr17) kmX0_isNew kvX0_isNew lm_X0_129 ⟨rfl, rfl⟩ ⟨Nat.le_of_ble_eq_true rfl, Nat.le_of_ble_eq_true rfl⟩ (rwV (q0 := 0) (ci := 0) hG (hP.sub [0, 2] rfl) (hD.sub [0, 2] (by decide) rfl) hAb hb0 hS hP rfl rfl) rfl rfl (Nat.le_of_ble_eq_true rfl) dX0_unlikeBends_99 ⟨Nat.le_of_ble_eq_true rfl, (show (lim0 + 0 : Nat) ≤ lim0 by omega)⟩) hP hD hS hA [0, 2] [1, 3, 4] rfl rfl (by decide) (by decide) (fun _ => rfl) (fun hz21 u20 H locs hP hD hS => ?_)
        have hG := hGk hS
        refine lv_if_eq (tgt := 108) hx hb dX0_unlikeBends_102 (by decide) (fun c22 => ?_) (fun c22 => ?_)
        · have h := itp c22 h
          exact w108 _ ih t_seen_n w19 b_t_seen v2 v4 v5 _ _ (hP.sub [3, 0, 4, 1, 2] rfl) (hD.sub [3, 0, 4, 1, 2] (by decide) rfl) hS _ (lv_sub hl [0, 1, 2, 3, 4] rfl) h
        · have h := itn c22 h
          refine lv_iinc (v := v4 + 1) (lv' := [(4, .int (v4 + 1)), (0, .ref ((a_t 0))), (1, .ref ((a_p1 0))), (2, .int v2), (5, .int v5)]) hx hb dX0_unlikeBends_105 hl (k := 3) rfl rfl (by decide) rfl (fun ls hl => ?_)
          exact w108 _ ih t_seen_n w19 b_t_seen v2 (v4 + 1) v5 _ _ (hP.sub [3, 0, 4, 1, 2] rfl) (hD.sub [3, 0, 4, 1, 2] (by decide) rfl) hS _ (lv_sub hl [1, 2, 3, 0, 4] rfl) h
  have w54 : ∀ (t_seen_n : Nat) (t_seen : Nat → Int64) (b_t_seen : Nat) (v2 : Int32) (H : Heap) (locs : List Loc), va_P g.2.1 vwCl [((a_t 0), .inr (0, [.ref b_t_rows, .ref b_t_seen, .int t_size, .int t_ready, .int t_pool, .int t_plies, .int t_room])), (b_t_rows, .inl (g.2.2.1 1, t_rows_n, .inr (.inl t_rows))), (b_t_seen, .inl (g.2.2.1 1, t_seen_n, .inr (.inl t_seen))), ((a_p1 0), .inr (1, [.ref (a_p1 1), .ref (a_p1 2), .ref (a_p1 3), .ref (a_p1 4), .ref (a_p1 5), .int p1_told, .int p1_lines, .int p1_kinds, .int p1_acts])), ((a_p1 2), .inl (g.2.2.1 0, 144, .inl p1_cells))] H → va_D A [((a_t 0), .inr (0, [.ref b_t_rows, .ref b_t_seen, .int t_size, .int t_ready, .int t_pool, .int t_plies, .int t_room])), (b_t_rows, .inl (g.2.2.1 1, t_rows_n, .inr (.inl t_rows))), (b_t_seen, .inl (g.2.2.1 1, t_seen_n, .inr (.inl t_seen))), ((a_p1 0), .inr (1, [.ref (a_p1 1), .ref (a_p1 2), .ref (a_p1 3), .ref (a_p1 4), .ref (a_p1 5), .int p1_told, .int p1_lines, .int p1_kinds, .int p1_acts])), ((a_p1 2), .inl (g.2.2.1 0, 144, .inl p1_cells))] → va_S A s.heap H locs → ∀ (ls : Array Slot), lv_has ls 6 [(0, .ref ((a_t 0))), (1, .ref ((a_p1 0))), (2, .int v2)] → fX0_unlikeBends_54 lim0  t_rows_n t_rows t_seen_n t_seen t_size t_plies p1_cells v2 = some (o, o_t_seen_n, o_t_seen) → W p l e ⟨3, 1, lim0, 77⟩ s m args below meth c H locs 1 lim0 Q (F0 m 54 ls []) := by
    intro t_seen_n t_seen b_t_seen v2 H locs hP hD hS ls hl h
    unfold fX0_unlikeBends_54 at h
    have hG := hGk hS
    refine lv_aload_n hx hb dX0_unlikeBends_54 rfl (lv_at hl 0 rfl) ?_
    refine xa_get (C := RX0) (T := TX0) (N := 7) cx hG hP 0 rfl rfl uX0 1 (by decide) lf_X0_15 rfl dX0_unlikeBends_55 ?_
    refine lv_lconst (v := 0) hx hb dX0_unlikeBends_58 (by decide) ?_
    obtain ⟨w6, hr5, h⟩ := bnd h
    refine rw_v (WN := fun u7 => [((a_t 0), .inr (0, [.ref b_t_rows, .ref b_t_seen, .int t_size, .int t_ready, .int t_pool, .int t_plies, .int t_room])), (b_t_rows, .inl (g.2.2.1 1, t_rows_n, .inr (.inl t_rows))), ((a_p1 0), .inr (1, [.ref (a_p1 1), .ref (a_p1 2), .ref (a_p1 3), .ref (a_p1 4), .ref (a_p1 5), .int p1_told, .int p1_lines, .int p1_kinds, .int p1_acts])), ((a_p1 2), .inl (g.2.2.1 0, 144, .inl p1_cells)), (b_t_seen, .inl (g.2.2.1 1, t_seen_n, .inr (.inl w6)))]) (wr := [((a_t 0), .inr (0, [.ref b_t_rows, .ref b_t_seen, .int t_size, .int t_ready, .int t_pool, .int t_plies, .int t_room])), (b_t_rows, .inl (g.2.2.1 1, t_rows_n, .inr (.inl t_rows))), ((a_p1 0), .inr (1, [.ref (a_p1 1), .ref (a_p1 2), .ref (a_p1 3), .ref (a_p1 4), .ref (a_p1 5), .int p1_told, .int p1_lines, .int p1_kinds, .int p1_acts])), ((a_p1 2), .inl (g.2.2.1 0, 144, .inl p1_cells))]) (runS (As := [.ref b_t_seen, .long (0)]) (rest := []) cx hl.1 (ctJ7_fill_d0a16 l g H.size b_t_seen t_seen_n t_seen (0) w6 hr5) kmJ7_fill_d0a16 ksJ7_fill_d0a16 lm_X0_119 ⟨rfl, rfl⟩ ⟨Nat.le_of_ble_eq_true rfl, Nat.le_of_ble_eq_true rfl⟩ (rwS hG (hP.sub [2] rfl) (hD.sub [2] (by decide) rfl) hAb hb0 hS) rfl rfl (Nat.le_of_ble_eq_true rfl) dX0_unlikeBends_59 ⟨Nat.le_of_ble_eq_true rfl, (show (lim0 + 0 : Nat) ≤ lim0 by omega)⟩) hP hD hS hA [2] [0, 1, 3, 4] rfl rfl (by decide) (by decide) (fun _ => rfl) (fun u7 H locs hP hD hS => ?_)
    have hG := hGk hS
    refine lv_iconst (v := 0) hx hb dX0_unlikeBends_62 (by decide) ?_
    refine lv_istore (lv' := [(4, .int (0)), (0, .ref ((a_t 0))), (1, .ref ((a_p1 0))), (2, .int v2)]) hx hb dX0_unlikeBends_63 hl (by decide) rfl (fun ls hl => ?_)
    refine lv_iconst (v := 0) hx hb dX0_unlikeBends_65 (by decide) ?_
    refine lv_istore (lv' := [(5, .int (0)), (4, .int (0)), (0, .ref ((a_t 0))), (1, .ref ((a_p1 0))), (2, .int v2)]) hx hb dX0_unlikeBends_66 hl (by decide) rfl (fun ls hl => ?_)
    exact w68 FU t_seen_n w6 b_t_seen v2 0 0 _ _ (hP.sub [0, 1, 4, 2, 3] rfl) (hD.sub [0, 1, 4, 2, 3] (by decide) rfl) hS _ (lv_sub hl [2, 3, 4, 1, 0] rfl) h
  have w38 : ∀ (t_seen_n : Nat) (t_seen : Nat → Int64) (b_t_seen : Nat) (v2 : Int32) (v3 : Int32) (H : Heap) (locs : List Loc), va_P g.2.1 vwCl [((a_t 0), .inr (0, [.ref b_t_rows, .ref b_t_seen, .int t_size, .int t_ready, .int t_pool, .int t_plies, .int t_room])), (b_t_rows, .inl (g.2.2.1 1, t_rows_n, .inr (.inl t_rows))), (b_t_seen, .inl (g.2.2.1 1, t_seen_n, .inr (.inl t_seen))), ((a_p1 0), .inr (1, [.ref (a_p1 1), .ref (a_p1 2), .ref (a_p1 3), .ref (a_p1 4), .ref (a_p1 5), .int p1_told, .int p1_lines, .int p1_kinds, .int p1_acts])), ((a_p1 2), .inl (g.2.2.1 0, 144, .inl p1_cells))] H → va_D A [((a_t 0), .inr (0, [.ref b_t_rows, .ref b_t_seen, .int t_size, .int t_ready, .int t_pool, .int t_plies, .int t_room])), (b_t_rows, .inl (g.2.2.1 1, t_rows_n, .inr (.inl t_rows))), (b_t_seen, .inl (g.2.2.1 1, t_seen_n, .inr (.inl t_seen))), ((a_p1 0), .inr (1, [.ref (a_p1 1), .ref (a_p1 2), .ref (a_p1 3), .ref (a_p1 4), .ref (a_p1 5), .int p1_told, .int p1_lines, .int p1_kinds, .int p1_acts])), ((a_p1 2), .inl (g.2.2.1 0, 144, .inl p1_cells))] → va_S A s.heap H locs → ∀ (ls : Array Slot), lv_has ls 6 [(0, .ref ((a_t 0))), (1, .ref ((a_p1 0))), (2, .int v2), (3, .int v3)] → fX0_unlikeBends_38 lim0  t_rows_n t_rows t_seen_n t_seen t_size t_plies p1_cells v2 v3 = some (o, o_t_seen_n, o_t_seen) → W p l e ⟨3, 1, lim0, 77⟩ s m args below meth c H locs 0 0 Q (F0 m 38 ls []) := by
    intro t_seen_n t_seen b_t_seen v2 v3 H locs hP hD hS ls hl h
    unfold fX0_unlikeBends_38 at h
    have hG := hGk hS
    refine lv_aload_n hx hb dX0_unlikeBends_38 rfl (lv_at hl 0 rfl) ?_
    refine xa_get (C := RX0) (T := TX0) (N := 7) cx hG hP 0 rfl rfl uX0 1 (by decide) lf_X0_15 rfl dX0_unlikeBends_39 ?_
    refine xa_len cx hG hP 2 rfl 1 rfl (v := nI t_seen_n) rfl dX0_unlikeBends_42 ?_
    refine lv_iload_n hx hb dX0_unlikeBends_43 rfl (lv_at hl 3 rfl) ?_
    refine lv_icmp_ge (tgt := 54) hx hb dX0_unlikeBends_44 (by decide) (fun c3 => ?_) (fun c3 => ?_)
    · have h := itp c3 h
      refine W.widen (k := 1) (n := lim0) (Nat.le_of_ble_eq_true rfl) (show (0 : Nat) ≤ lim0 by omega) ?_
      exact w54 t_seen_n t_seen b_t_seen v2 _ _ hP hD hS _ (lv_sub hl [0, 1, 2] rfl) h
    · have h := itn c3 h
      refine lv_aload_n hx hb dX0_unlikeBends_47 rfl (lv_at hl 0 rfl) ?_
      refine lv_iload_n hx hb dX0_unlikeBends_48 rfl (lv_at hl 3 rfl) ?_
      obtain ⟨hn4, h⟩ := nn_out h
      refine xw_newl (N' := v3.toNatClampNeg) cx hG hP hD hS hA arJ hn4.1 rfl hn4.2.2 (Nat.le_of_ble_eq_true rfl) (show 0 + v3.toNatClampNeg ≤ lim0 by have := hn4.2.1; omega) dX0_unlikeBends_49 (fun q_n49 H hP hD hS => ?_)
      have hP : va_P g.2.1 vwCl [((a_t 0), .inr (0, [.ref b_t_rows, .ref b_t_seen, .int t_size, .int t_ready, .int t_pool, .int t_plies, .int t_room])), (b_t_rows, .inl (g.2.2.1 1, t_rows_n, .inr (.inl t_rows))), (b_t_seen, .inl (g.2.2.1 1, t_seen_n, .inr (.inl t_seen))), ((a_p1 0), .inr (1, [.ref (a_p1 1), .ref (a_p1 2), .ref (a_p1 3), .ref (a_p1 4), .ref (a_p1 5), .int p1_told, .int p1_lines, .int p1_kinds, .int p1_acts])), ((a_p1 2), .inl (g.2.2.1 0, 144, .inl p1_cells)), (q_n49, .inl (g.2.2.1 1, v3.toNatClampNeg, .inr (.inl (fun _ => 0))))] H := hP
      have hD : va_D A [((a_t 0), .inr (0, [.ref b_t_rows, .ref b_t_seen, .int t_size, .int t_ready, .int t_pool, .int t_plies, .int t_room])), (b_t_rows, .inl (g.2.2.1 1, t_rows_n, .inr (.inl t_rows))), (b_t_seen, .inl (g.2.2.1 1, t_seen_n, .inr (.inl t_seen))), ((a_p1 0), .inr (1, [.ref (a_p1 1), .ref (a_p1 2), .ref (a_p1 3), .ref (a_p1 4), .ref (a_p1 5), .int p1_told, .int p1_lines, .int p1_kinds, .int p1_acts])), ((a_p1 2), .inl (g.2.2.1 0, 144, .inl p1_cells)), (q_n49, .inl (g.2.2.1 1, v3.toNatClampNeg, .inr (.inl (fun _ => 0))))] := hD
      have hG := hGk hS
      refine xw_put (C := RX0) (T := TX0) (N := 7) (ty := .array .long) (v := .ref q_n49) (ws' := [((a_t 0), .inr (0, [.ref b_t_rows, .ref q_n49, .int t_size, .int t_ready, .int t_pool, .int t_plies, .int t_room])), (b_t_rows, .inl (g.2.2.1 1, t_rows_n, .inr (.inl t_rows))), (b_t_seen, .inl (g.2.2.1 1, t_seen_n, .inr (.inl t_seen))), ((a_p1 0), .inr (1, [.ref (a_p1 1), .ref (a_p1 2), .ref (a_p1 3), .ref (a_p1 4), .ref (a_p1 5), .int p1_told, .int p1_lines, .int p1_kinds, .int p1_acts])), ((a_p1 2), .inl (g.2.2.1 0, 144, .inl p1_cells)), (q_n49, .inl (g.2.2.1 1, v3.toNatClampNeg, .inr (.inl (fun _ => 0))))]) cx hG hP hD hS 0 rfl rfl uX0 tyX0 tyX0_ok nmX0 1 (by decide) lf_X0_15 rfl (by decide +kernel) rfl rfl (Nat.le_of_ble_eq_true rfl) rfl dX0_unlikeBends_51 (fun H locs hP hD hS => ?_)
      have hP := hP.sub (ws' := [((a_t 0), .inr (0, [.ref b_t_rows, .ref q_n49, .int t_size, .int t_ready, .int t_pool, .int t_plies, .int t_room])), (b_t_rows, .inl (g.2.2.1 1, t_rows_n, .inr (.inl t_rows))), (q_n49, .inl (g.2.2.1 1, v3.toNatClampNeg, .inr (.inl (fun _ => 0)))), ((a_p1 0), .inr (1, [.ref (a_p1 1), .ref (a_p1 2), .ref (a_p1 3), .ref (a_p1 4), .ref (a_p1 5), .int p1_told, .int p1_lines, .int p1_kinds, .int p1_acts])), ((a_p1 2), .inl (g.2.2.1 0, 144, .inl p1_cells))]) [0, 1, 5, 3, 4] rfl
      have hD := hD.sub (ws' := [((a_t 0), .inr (0, [.ref b_t_rows, .ref q_n49, .int t_size, .int t_ready, .int t_pool, .int t_plies, .int t_room])), (b_t_rows, .inl (g.2.2.1 1, t_rows_n, .inr (.inl t_rows))), (q_n49, .inl (g.2.2.1 1, v3.toNatClampNeg, .inr (.inl (fun _ => 0)))), ((a_p1 0), .inr (1, [.ref (a_p1 1), .ref (a_p1 2), .ref (a_p1 3), .ref (a_p1 4), .ref (a_p1 5), .int p1_told, .int p1_lines, .int p1_kinds, .int p1_acts])), ((a_p1 2), .inl (g.2.2.1 0, 144, .inl p1_cells))]) [0, 1, 5, 3, 4] (by decide) rfl
      have hG := hGk hS
      refine W.widen (k := 1) (n := lim0) (Nat.le_of_ble_eq_true rfl) (show (0 + v3.toNatClampNeg : Nat) ≤ lim0 by omega) ?_
      exact w54 v3.toNatClampNeg (fun _ => 0) q_n49 v2 _ _ hP hD hS _ (lv_sub hl [0, 1, 2] rfl) h
  have w6 : ∀ (n : Nat) (t_seen_n : Nat) (t_seen : Nat → Int64) (b_t_seen : Nat) (v2 : Int32) (v3 : Int32) (v4 : Int32) (H : Heap) (locs : List Loc), va_P g.2.1 vwCl [((a_t 0), .inr (0, [.ref b_t_rows, .ref b_t_seen, .int t_size, .int t_ready, .int t_pool, .int t_plies, .int t_room])), (b_t_rows, .inl (g.2.2.1 1, t_rows_n, .inr (.inl t_rows))), (b_t_seen, .inl (g.2.2.1 1, t_seen_n, .inr (.inl t_seen))), ((a_p1 0), .inr (1, [.ref (a_p1 1), .ref (a_p1 2), .ref (a_p1 3), .ref (a_p1 4), .ref (a_p1 5), .int p1_told, .int p1_lines, .int p1_kinds, .int p1_acts])), ((a_p1 2), .inl (g.2.2.1 0, 144, .inl p1_cells))] H → va_D A [((a_t 0), .inr (0, [.ref b_t_rows, .ref b_t_seen, .int t_size, .int t_ready, .int t_pool, .int t_plies, .int t_room])), (b_t_rows, .inl (g.2.2.1 1, t_rows_n, .inr (.inl t_rows))), (b_t_seen, .inl (g.2.2.1 1, t_seen_n, .inr (.inl t_seen))), ((a_p1 0), .inr (1, [.ref (a_p1 1), .ref (a_p1 2), .ref (a_p1 3), .ref (a_p1 4), .ref (a_p1 5), .int p1_told, .int p1_lines, .int p1_kinds, .int p1_acts])), ((a_p1 2), .inl (g.2.2.1 0, 144, .inl p1_cells))] → va_S A s.heap H locs → ∀ (ls : Array Slot), lv_has ls 6 [(0, .ref ((a_t 0))), (1, .ref ((a_p1 0))), (2, .int v2), (3, .int v3), (4, .int v4)] → fX0_unlikeBends_6 lim0  n t_rows_n t_rows t_seen_n t_seen t_size t_plies p1_cells v2 v3 v4 = some (o, o_t_seen_n, o_t_seen) → W p l e ⟨3, 1, lim0, 77⟩ s m args below meth c H locs 0 0 Q (F0 m 6 ls []) := by
    intro n
    induction n with
    | zero => intro t_seen_n t_seen b_t_seen v2 v3 v4 H locs hP hD hS ls hl h; cases (fX0_unlikeBends_6_z lim0  t_rows_n t_rows t_seen_n t_seen t_size t_plies p1_cells v2 v3 v4).symm.trans h
    | succ n ih =>
    intro t_seen_n t_seen b_t_seen v2 v3 v4 H locs hP hD hS ls hl h
    have h := (fX0_unlikeBends_6_s lim0  n t_rows_n t_rows t_seen_n t_seen t_size t_plies p1_cells v2 v3 v4).symm.trans h
    have hG := hGk hS
    refine lv_iload hx hb dX0_unlikeBends_6 (lv_at hl 4 rfl) ?_
    refine lv_bipush (v := 12) hx hb dX0_unlikeBends_8 (by decide) ?_
    refine lv_icmp_ge (tgt := 38) hx hb dX0_unlikeBends_10 (by decide) (fun c1 => ?_) (fun c1 => ?_)
    · have h := itp c1 h
      exact w38 t_seen_n t_seen b_t_seen v2 v3 _ _ hP hD hS _ (lv_sub hl [0, 1, 2, 3] rfl) h
    · have h := itn c1 h
      refine lv_iload_n hx hb dX0_unlikeBends_13 rfl (lv_at hl 3 rfl) ?_
      refine lv_aload_n hx hb dX0_unlikeBends_14 rfl (lv_at hl 0 rfl) ?_
      refine xa_get (C := RX0) (T := TX0) (N := 7) cx hG hP 0 rfl rfl uX0 2 (by decide) lf_X0_49 rfl dX0_unlikeBends_15 ?_
      refine lv_aload_n hx hb dX0_unlikeBends_18 rfl (lv_at hl 0 rfl) ?_
      refine xa_get (C := RX0) (T := TX0) (N := 7) cx hG hP 0 rfl rfl uX0 2 (by decide) lf_X0_49 rfl dX0_unlikeBends_19 ?_
      refine lv_iconst (v := 2) hx hb dX0_unlikeBends_22 (by decide) ?_
      refine lv_idiv hx hb dX0_unlikeBends_23 (by decide) ?_
      refine lv_iadd hx hb dX0_unlikeBends_24 ?_
      refine lv_icmp_ge (tgt := 38) hx hb dX0_unlikeBends_25 (by decide) (fun c2 => ?_) (fun c2 => ?_)
      · have h := itp c2 h
        exact w38 t_seen_n t_seen b_t_seen v2 v3 _ _ hP hD hS _ (lv_sub hl [0, 1, 2, 3] rfl) h
      · have h := itn c2 h
        refine lv_iload_n hx hb dX0_unlikeBends_28 rfl (lv_at hl 3 rfl) ?_
        refine lv_iconst (v := 2) hx hb dX0_unlikeBends_29 (by decide) ?_
        refine lv_imul hx hb dX0_unlikeBends_30 ?_
        refine lv_istore_n (lv' := [(3, .int (v3 * 2)), (0, .ref ((a_t 0))), (1, .ref ((a_p1 0))), (2, .int v2), (4, .int v4)]) hx hb dX0_unlikeBends_31 rfl hl (by decide) rfl (fun ls hl => ?_)
        refine lv_iinc (v := v4 + 1) (lv' := [(4, .int (v4 + 1)), (3, .int (v3 * 2)), (0, .ref ((a_t 0))), (1, .ref ((a_p1 0))), (2, .int v2)]) hx hb dX0_unlikeBends_32 hl (k := 4) rfl rfl (by decide) rfl (fun ls hl => ?_)
        refine lv_goto (tgt := 6) hx hb dX0_unlikeBends_35 (by decide) ?_
        exact ih t_seen_n t_seen b_t_seen v2 (v3 * 2) (v4 + 1) _ _ hP hD hS _ (lv_sub hl [2, 3, 4, 1, 0] rfl) h
  unfold fX0_unlikeBends at h
  refine lv_bipush (v := 32) hx hb dX0_unlikeBends_0 (by decide) ?_
  refine lv_istore_n (lv' := [(3, .int (32)), (0, .ref ((a_t 0))), (1, .ref ((a_p1 0))), (2, .int v2)]) hx hb dX0_unlikeBends_2 rfl hl (by decide) rfl (fun ls hl => ?_)
  refine lv_iconst (v := 0) hx hb dX0_unlikeBends_3 (by decide) ?_
  refine lv_istore (lv' := [(4, .int (0)), (3, .int (32)), (0, .ref ((a_t 0))), (1, .ref ((a_p1 0))), (2, .int v2)]) hx hb dX0_unlikeBends_4 hl (by decide) rfl (fun ls hl => ?_)
  exact w6 FU t_seen_n t_seen b_t_seen v2 32 0 _ _ hP hD hS _ (lv_sub hl [2, 3, 4, 1, 0] rfl) h
-- X7_unlike
theorem dX7_unlike_0 : decode cX7_unlike 0 = .ok (.aload_n 0, 1) := by decide +kernel
theorem dX7_unlike_1 : decode cX7_unlike 1 = .ok (.iload_n 1, 1) := by decide +kernel
theorem dX7_unlike_2 : decode cX7_unlike 2 = .ok (.invokevirtual 239, 3) := by decide +kernel
theorem dX7_unlike_5 : decode cX7_unlike 5 = .ok (.ifCond .ne 6, 3) := by decide +kernel
theorem dX7_unlike_8 : decode cX7_unlike 8 = .ok (.bipush (-2), 2) := by decide +kernel
theorem dX7_unlike_10 : decode cX7_unlike 10 = .ok (.ireturn, 1) := by decide +kernel
theorem dX7_unlike_11 : decode cX7_unlike 11 = .ok (.aload_n 0, 1) := by decide +kernel
theorem dX7_unlike_12 : decode cX7_unlike 12 = .ok (.getfield 41, 3) := by decide +kernel
theorem dX7_unlike_15 : decode cX7_unlike 15 = .ok (.aload_n 0, 1) := by decide +kernel
theorem dX7_unlike_16 : decode cX7_unlike 16 = .ok (.getfield 30, 3) := by decide +kernel
theorem dX7_unlike_19 : decode cX7_unlike 19 = .ok (.invokevirtual 242, 3) := by decide +kernel
theorem dX7_unlike_22 : decode cX7_unlike 22 = .ok (.aload_n 0, 1) := by decide +kernel
theorem dX7_unlike_23 : decode cX7_unlike 23 = .ok (.getfield 41, 3) := by decide +kernel
theorem dX7_unlike_26 : decode cX7_unlike 26 = .ok (.aload_n 0, 1) := by decide +kernel
theorem dX7_unlike_27 : decode cX7_unlike 27 = .ok (.getfield 30, 3) := by decide +kernel
theorem dX7_unlike_30 : decode cX7_unlike 30 = .ok (.iload_n 1, 1) := by decide +kernel
theorem dX7_unlike_31 : decode cX7_unlike 31 = .ok (.invokevirtual 277, 3) := by decide +kernel
theorem dX7_unlike_34 : decode cX7_unlike 34 = .ok (.ireturn, 1) := by decide +kernel
noncomputable def fX7_unlike (lim0 : Nat) (lim1 : Nat)  (t_now_cells : Nat → Int32) (t_now_rows : Nat → Int32) (t_now_sizes : Nat → Int32) (t_now_rooms : Nat → Int32) (t_now_told : Int32) (t_now_acts : Int32) (t_choices_rows_n : Nat) (t_choices_rows : Nat → Int64) (t_choices_seen_n : Nat) (t_choices_seen : Nat → Int64) (t_choices_size : Int32) (t_choices_ready : Int32) (t_choices_pool : Int32) (t_choices_plies : Int32) (t_choices_room : Int32) (v1 : Int32) : Option (Int32 × Nat × (Nat → Int64) × Nat × (Nat → Int64) × Int32 × Int32 × Int32 × Int32 × Int32) := (if (fX7_isMask t_now_told v1) = 0 then some ((-2), t_choices_rows_n, t_choices_rows, t_choices_seen_n, t_choices_seen, t_choices_size, t_choices_ready, t_choices_pool, t_choices_plies, t_choices_room) else ob7 (fX0_prepare lim0 t_choices_rows_n t_choices_rows t_choices_size t_choices_ready t_choices_pool t_choices_plies t_choices_room t_now_cells t_now_rows t_now_sizes t_now_rooms t_now_acts) fun w4 w5 w6 w7 w8 w9 w10 => ob3 (fX0_unlikeBends lim1 w4 w5 t_choices_seen_n t_choices_seen w6 w9 t_now_cells v1) fun r13 w14 w15 => some (r13, w4, w5, w14, w15, w6, w7, w8, w9, w10))
set_option maxHeartbeats 4000000 in
set_option maxRecDepth 100000 in
theorem ctX7_unlike (l : Launch) (g : GT) (lim0 : Nat) (lim1 : Nat) (sz : Nat) (a_t : Nat → Nat) (a_t_tape : Nat → Nat) (a_t_reader : Nat → Nat) (a_t_now : Nat → Nat) (a_t_choices : Nat → Nat) (a_t_ways : Nat → Nat) (a_t_stress : Nat → Nat) (b_t_choices_rows : Nat) (b_t_choices_seen : Nat) (t_now_told : Int32) (t_now_lines : Int32) (t_now_kinds : Int32) (t_now_acts : Int32) (t_now_cells : Nat → Int32) (t_now_rows : Nat → Int32) (t_now_sizes : Nat → Int32) (t_now_rooms : Nat → Int32) (t_choices_size : Int32) (t_choices_ready : Int32) (t_choices_pool : Int32) (t_choices_plies : Int32) (t_choices_room : Int32) (t_choices_rows_n : Nat) (t_choices_rows : Nat → Int64) (t_choices_seen_n : Nat) (t_choices_seen : Nat → Int64) (v1 : Int32) (o : Int32) (o_t_choices_rows_n : Nat) (o_t_choices_rows : Nat → Int64) (o_t_choices_seen_n : Nat) (o_t_choices_seen : Nat → Int64) (o_t_choices_size : Int32) (o_t_choices_ready : Int32) (o_t_choices_pool : Int32) (o_t_choices_plies : Int32) (o_t_choices_room : Int32) (h : fX7_unlike lim0 lim1 t_now_cells t_now_rows t_now_sizes t_now_rooms t_now_told t_now_acts t_choices_rows_n t_choices_rows t_choices_seen_n t_choices_seen t_choices_size t_choices_ready t_choices_pool t_choices_plies t_choices_room v1 = some (o, o_t_choices_rows_n, o_t_choices_rows, o_t_choices_seen_n, o_t_choices_seen, o_t_choices_size, o_t_choices_ready, o_t_choices_pool, o_t_choices_plies, o_t_choices_room)) : Met l yX7_unlike (Cond.code yX7_unlike cX7_unlike 2 (some .int) :: Tw) ⟨16, 2, lim0 + lim1, 520⟩ (va_Pc [.ref ((a_t 0)), .int v1] (rwB g [((a_t 0), .inr (6, [.ref (a_t_tape 0), .ref (a_t_reader 0), .ref (a_t_now 0), .ref (a_t 4), .ref (a_t_choices 0), .ref (a_t_ways 0), .ref (a_t_stress 0)])), ((a_t_now 0), .inr (1, [.ref (a_t_now 1), .ref (a_t_now 2), .ref (a_t_now 3), .ref (a_t_now 4), .ref (a_t_now 5), .int t_now_told, .int t_now_lines, .int t_now_kinds, .int t_now_acts])), ((a_t_now 2), .inl (g.2.2.1 0, 144, .inl t_now_cells)), ((a_t_now 3), .inl (g.2.2.1 0, 31, .inl t_now_rows)), ((a_t_now 4), .inl (g.2.2.1 0, 31, .inl t_now_sizes)), ((a_t_now 5), .inl (g.2.2.1 0, 31, .inl t_now_rooms)), ((a_t_choices 0), .inr (0, [.ref b_t_choices_rows, .ref b_t_choices_seen, .int t_choices_size, .int t_choices_ready, .int t_choices_pool, .int t_choices_plies, .int t_choices_room])), (b_t_choices_rows, .inl (g.2.2.1 1, t_choices_rows_n, .inr (.inl t_choices_rows))), (b_t_choices_seen, .inl (g.2.2.1 1, t_choices_seen_n, .inr (.inl t_choices_seen)))] sz)) (va_Qi (fun x (_ : Nat → Nat) => x = o) (fun u => rwE g (va_A [((a_t 0), .inr (6, [.ref (a_t_tape 0), .ref (a_t_reader 0), .ref (a_t_now 0), .ref (a_t 4), .ref (a_t_choices 0), .ref (a_t_ways 0), .ref (a_t_stress 0)])), ((a_t_now 0), .inr (1, [.ref (a_t_now 1), .ref (a_t_now 2), .ref (a_t_now 3), .ref (a_t_now 4), .ref (a_t_now 5), .int t_now_told, .int t_now_lines, .int t_now_kinds, .int t_now_acts])), ((a_t_now 2), .inl (g.2.2.1 0, 144, .inl t_now_cells)), ((a_t_now 3), .inl (g.2.2.1 0, 31, .inl t_now_rows)), ((a_t_now 4), .inl (g.2.2.1 0, 31, .inl t_now_sizes)), ((a_t_now 5), .inl (g.2.2.1 0, 31, .inl t_now_rooms)), ((a_t_choices 0), .inr (0, [.ref b_t_choices_rows, .ref b_t_choices_seen, .int t_choices_size, .int t_choices_ready, .int t_choices_pool, .int t_choices_plies, .int t_choices_room])), (b_t_choices_rows, .inl (g.2.2.1 1, t_choices_rows_n, .inr (.inl t_choices_rows))), (b_t_choices_seen, .inl (g.2.2.1 1, t_choices_seen_n, .inr (.inl t_choices_seen)))] sz) [((a_t 0), .inr (6, [.ref (a_t_tape 0), .ref (a_t_reader 0), .ref (a_t_now 0), .ref (a_t 4), .ref (a_t_choices 0), .ref (a_t_ways 0), .ref (a_t_stress 0)])), ((a_t_now 0), .inr (1, [.ref (a_t_now 1), .ref (a_t_now 2), .ref (a_t_now 3), .ref (a_t_now 4), .ref (a_t_now 5), .int t_now_told, .int t_now_lines, .int t_now_kinds, .int t_now_acts])), ((a_t_now 2), .inl (g.2.2.1 0, 144, .inl t_now_cells)), ((a_t_now 3), .inl (g.2.2.1 0, 31, .inl t_now_rows)), ((a_t_now 4), .inl (g.2.2.1 0, 31, .inl t_now_sizes)), ((a_t_now 5), .inl (g.2.2.1 0, 31, .inl t_now_rooms)), ((a_t_choices 0), .inr (0, [.ref (u 0), .ref (u 1), .int o_t_choices_size, .int o_t_choices_ready, .int o_t_choices_pool, .int o_t_choices_plies, .int o_t_choices_room])), ((u 0), .inl (g.2.2.1 1, o_t_choices_rows_n, .inr (.inl o_t_choices_rows))), ((u 1), .inl (g.2.2.1 1, o_t_choices_seen_n, .inr (.inl o_t_choices_seen)))]) (va_A [((a_t 0), .inr (6, [.ref (a_t_tape 0), .ref (a_t_reader 0), .ref (a_t_now 0), .ref (a_t 4), .ref (a_t_choices 0), .ref (a_t_ways 0), .ref (a_t_stress 0)])), ((a_t_now 0), .inr (1, [.ref (a_t_now 1), .ref (a_t_now 2), .ref (a_t_now 3), .ref (a_t_now 4), .ref (a_t_now 5), .int t_now_told, .int t_now_lines, .int t_now_kinds, .int t_now_acts])), ((a_t_now 2), .inl (g.2.2.1 0, 144, .inl t_now_cells)), ((a_t_now 3), .inl (g.2.2.1 0, 31, .inl t_now_rows)), ((a_t_now 4), .inl (g.2.2.1 0, 31, .inl t_now_sizes)), ((a_t_now 5), .inl (g.2.2.1 0, 31, .inl t_now_rooms)), ((a_t_choices 0), .inr (0, [.ref b_t_choices_rows, .ref b_t_choices_seen, .int t_choices_size, .int t_choices_ready, .int t_choices_pool, .int t_choices_plies, .int t_choices_room])), (b_t_choices_rows, .inl (g.2.2.1 1, t_choices_rows_n, .inr (.inl t_choices_rows))), (b_t_choices_seen, .inl (g.2.2.1 1, t_choices_seen_n, .inr (.inl t_choices_seen)))] sz)) 2 (lim0 + lim1) (va_A [((a_t 0), .inr (6, [.ref (a_t_tape 0), .ref (a_t_reader 0), .ref (a_t_now 0), .ref (a_t 4), .ref (a_t_choices 0), .ref (a_t_ways 0), .ref (a_t_stress 0)])), ((a_t_now 0), .inr (1, [.ref (a_t_now 1), .ref (a_t_now 2), .ref (a_t_now 3), .ref (a_t_now 4), .ref (a_t_now 5), .int t_now_told, .int t_now_lines, .int t_now_kinds, .int t_now_acts])), ((a_t_now 2), .inl (g.2.2.1 0, 144, .inl t_now_cells)), ((a_t_now 3), .inl (g.2.2.1 0, 31, .inl t_now_rows)), ((a_t_now 4), .inl (g.2.2.1 0, 31, .inl t_now_sizes)), ((a_t_now 5), .inl (g.2.2.1 0, 31, .inl t_now_rooms)), ((a_t_choices 0), .inr (0, [.ref b_t_choices_rows, .ref b_t_choices_seen, .int t_choices_size, .int t_choices_ready, .int t_choices_pool, .int t_choices_plies, .int t_choices_room])), (b_t_choices_rows, .inl (g.2.2.1 1, t_choices_rows_n, .inr (.inl t_choices_rows))), (b_t_choices_seen, .inl (g.2.2.1 1, t_choices_seen_n, .inr (.inl t_choices_seen)))] sz) := by
  refine rw_meti (by decide) (Nat.le_of_ble_eq_true rfl) (lv0 := [(0, .ref ((a_t 0))), (1, .int v1)]) rfl ?_
  intro p e s m args below meth c ls Q A cx hret hG hAb hb0 hA hP hD hl
  have hx := cx.1
  have hb := cx.2.1
  have hG0 := hG
  have hGk : ∀ {H : Heap} {locs : List Loc}, va_S A s.heap H locs → GE g s H := fun hS => hG0.keptS hAb hS
  have hSb : ∀ {H : Heap} {locs : List Loc}, va_S A s.heap H locs → va_S (fun a => g.1 ≤ a) s.heap H locs := fun hS => ⟨hS.1, fun q h1 h2 => hS.2.1 q h1 (fun z => h2 (hAb q z)), fun l hl => hAb _ (hS.2.2 l hl)⟩
  have hS : va_S A s.heap s.heap [] := va_S.rf
  unfold fX7_unlike at h
  refine lv_aload_n hx hb dX7_unlike_0 rfl (lv_at hl 0 rfl) ?_
  refine lv_iload_n hx hb dX7_unlike_1 rfl (lv_at hl 1 rfl) ?_
  refine ro_z (runV (As := [.int v1]) (rest := []) cx hl.1 (ctX7_isMask l g a_t a_t_tape a_t_reader a_t_now a_t_choices a_t_ways a_t_stress t_now_told t_now_lines t_now_kinds t_now_acts v1 (fX7_isMask t_now_told v1) rfl) kmX7_isMask kvX7_isMask lm_X7_239 ⟨rfl, rfl⟩ ⟨Nat.le_of_ble_eq_true rfl, Nat.le_of_ble_eq_true rfl⟩ (roV (q0 := 0) (ci := 6) hG (hP.sub [0, 1] rfl) hP rfl rfl) rfl rfl (Nat.le_of_ble_eq_true rfl) dX7_unlike_2 ⟨Nat.le_of_ble_eq_true rfl, (show (0 + 0 : Nat) ≤ lim0 + lim1 by omega)⟩) (fun hz1 => ?_)
  refine lv_if_ne (tgt := 11) hx hb dX7_unlike_5 (by decide) (fun c2 => ?_) (fun c2 => ?_)
  · have h := itn c2 h
    refine lv_aload_n hx hb dX7_unlike_11 rfl (lv_at hl 0 rfl) ?_
    refine xa_get (C := RX7) (T := TX7) (N := 7) cx hG hP 0 rfl rfl uX7 4 (by decide) lf_X7_41 rfl dX7_unlike_12 ?_
    refine lv_aload_n hx hb dX7_unlike_15 rfl (lv_at hl 0 rfl) ?_
    refine xa_get (C := RX7) (T := TX7) (N := 7) cx hG hP 0 rfl rfl uX7 2 (by decide) lf_X7_30 rfl dX7_unlike_16 ?_
    obtain ⟨w4, w5, w6, w7, w8, w9, w10, hr3, h⟩ := ob7_out h
    refine rw_v (WN := fun u11 => [((a_t 0), .inr (6, [.ref (a_t_tape 0), .ref (a_t_reader 0), .ref (a_t_now 0), .ref (a_t 4), .ref (a_t_choices 0), .ref (a_t_ways 0), .ref (a_t_stress 0)])), (b_t_choices_seen, .inl (g.2.2.1 1, t_choices_seen_n, .inr (.inl t_choices_seen))), ((a_t_choices 0), .inr (0, [.ref (u11 0), .ref b_t_choices_seen, .int w6, .int w7, .int w8, .int w9, .int w10])), ((u11 0), .inl (g.2.2.1 1, w4, .inr (.inl w5))), ((a_t_now 0), .inr (1, [.ref (a_t_now 1), .ref (a_t_now 2), .ref (a_t_now 3), .ref (a_t_now 4), .ref (a_t_now 5), .int t_now_told, .int t_now_lines, .int t_now_kinds, .int t_now_acts])), ((a_t_now 2), .inl (g.2.2.1 0, 144, .inl t_now_cells)), ((a_t_now 3), .inl (g.2.2.1 0, 31, .inl t_now_rows)), ((a_t_now 4), .inl (g.2.2.1 0, 31, .inl t_now_sizes)), ((a_t_now 5), .inl (g.2.2.1 0, 31, .inl t_now_rooms))]) (wr := [((a_t 0), .inr (6, [.ref (a_t_tape 0), .ref (a_t_reader 0), .ref (a_t_now 0), .ref (a_t 4), .ref (a_t_choices 0), .ref (a_t_ways 0), .ref (a_t_stress 0)])), (b_t_choices_seen, .inl (g.2.2.1 1, t_choices_seen_n, .inr (.inl t_choices_seen)))]) (runVN (As := [.ref ((a_t_now 0))]) (rest := []) hG cx hl.1 (ctX0_prepare l g lim0 s.heap.size a_t_choices b_t_choices_rows b_t_choices_seen a_t_now t_choices_size t_choices_ready t_choices_pool t_choices_plies t_choices_room t_choices_rows_n t_choices_rows t_now_told t_now_lines t_now_kinds t_now_acts t_now_cells t_now_rows t_now_sizes t_now_rooms w4 w5 w6 w7 w8 w9 w10 hr3) kmX0_prepare kvX0_prepare nm_52 ⟨rfl, rfl⟩ ⟨Nat.le_of_ble_eq_true rfl, Nat.le_of_ble_eq_true rfl⟩ (rwV (q0 := 6) (ci := 0) hG (hP.sub [6, 7, 1, 2, 3, 4, 5] rfl) (hD.sub [6, 7, 1, 2, 3, 4, 5] (by decide) rfl) hAb hb0 hS hP rfl rfl) rfl rfl (Nat.le_of_ble_eq_true rfl) dX7_unlike_19 ⟨Nat.le_of_ble_eq_true rfl, (show (0 + lim0 : Nat) ≤ lim0 + lim1 by omega)⟩) hP hD hS hA [6, 7, 1, 2, 3, 4, 5] [0, 8] rfl rfl (by decide) (by decide) (fun _ => rfl) (fun u11 H locs hP hD hS => ?_)
    have hG := hGk hS
    refine lv_aload_n hx hb dX7_unlike_22 rfl (lv_at hl 0 rfl) ?_
    refine xa_get (C := RX7) (T := TX7) (N := 7) cx hG hP 0 rfl rfl uX7 4 (by decide) lf_X7_41 rfl dX7_unlike_23 ?_
    refine lv_aload_n hx hb dX7_unlike_26 rfl (lv_at hl 0 rfl) ?_
    refine xa_get (C := RX7) (T := TX7) (N := 7) cx hG hP 0 rfl rfl uX7 2 (by decide) lf_X7_30 rfl dX7_unlike_27 ?_
    refine lv_iload_n hx hb dX7_unlike_30 rfl (lv_at hl 1 rfl) ?_
    obtain ⟨r13, w14, w15, hr12, h⟩ := ob3_out h
    refine rw_i (WN := fun u16 => [((a_t 0), .inr (6, [.ref (a_t_tape 0), .ref (a_t_reader 0), .ref (a_t_now 0), .ref (a_t 4), .ref (a_t_choices 0), .ref (a_t_ways 0), .ref (a_t_stress 0)])), ((a_t_now 3), .inl (g.2.2.1 0, 31, .inl t_now_rows)), ((a_t_now 4), .inl (g.2.2.1 0, 31, .inl t_now_sizes)), ((a_t_now 5), .inl (g.2.2.1 0, 31, .inl t_now_rooms)), ((a_t_choices 0), .inr (0, [.ref (u11 0), .ref (u16 0), .int w6, .int w7, .int w8, .int w9, .int w10])), ((u11 0), .inl (g.2.2.1 1, w4, .inr (.inl w5))), ((u16 0), .inl (g.2.2.1 1, w14, .inr (.inl w15))), ((a_t_now 0), .inr (1, [.ref (a_t_now 1), .ref (a_t_now 2), .ref (a_t_now 3), .ref (a_t_now 4), .ref (a_t_now 5), .int t_now_told, .int t_now_lines, .int t_now_kinds, .int t_now_acts])), ((a_t_now 2), .inl (g.2.2.1 0, 144, .inl t_now_cells))]) (wr := [((a_t 0), .inr (6, [.ref (a_t_tape 0), .ref (a_t_reader 0), .ref (a_t_now 0), .ref (a_t 4), .ref (a_t_choices 0), .ref (a_t_ways 0), .ref (a_t_stress 0)])), ((a_t_now 3), .inl (g.2.2.1 0, 31, .inl t_now_rows)), ((a_t_now 4), .inl (g.2.2.1 0, 31, .inl t_now_sizes)), ((a_t_now 5), .inl (g.2.2.1 0, 31, .inl t_now_rooms))]) (runVN (As := [.ref ((a_t_now 0)), .int v1]) (rest := []) hG cx hl.1 (ctX0_unlikeBends l g lim1 H.size a_t_choices (u11 0) b_t_choices_seen a_t_now w6 w7 w8 w9 w10 w4 w5 t_choices_seen_n t_choices_seen t_now_told t_now_lines t_now_kinds t_now_acts t_now_cells v1 r13 w14 w15 hr12) kmX0_unlikeBends kvX0_unlikeBends nm_78 ⟨rfl, rfl⟩ ⟨Nat.le_of_ble_eq_true rfl, Nat.le_of_ble_eq_true rfl⟩ (rwV (q0 := 2) (ci := 0) hG (hP.sub [2, 3, 1, 4, 5] rfl) (hD.sub [2, 3, 1, 4, 5] (by decide) rfl) hAb hb0 hS hP rfl rfl) rfl rfl (Nat.le_of_ble_eq_true rfl) dX7_unlike_31 ⟨Nat.le_of_ble_eq_true rfl, (show (0 + lim0 + lim1 : Nat) ≤ lim0 + lim1 by omega)⟩) hP hD hS hA [2, 3, 1, 4, 5] [0, 6, 7, 8] rfl rfl (by decide) (by decide) (fun _ => rfl) (fun u16 H locs hP hD hS => ?_)
    have hG := hGk hS
    refine W.widen (k := 2) (n := lim0 + lim1) (Nat.le_of_ble_eq_true rfl) (show (0 + lim0 + lim1 : Nat) ≤ lim0 + lim1 by omega) ?_
    cases h
    exact hret (uF (u11 0) (u16 0)) _ _ _ _ _ dX7_unlike_34 rfl (hP.sub [0, 7, 8, 1, 2, 3, 4, 5, 6] rfl) (hD.sub [0, 7, 8, 1, 2, 3, 4, 5, 6] (by decide) rfl) hS
  · have h := itp c2 h
    refine lv_bipush (v := -2) hx hb dX7_unlike_8 (by decide) ?_
    refine W.widen (k := 2) (n := lim0 + lim1) (Nat.le_of_ble_eq_true rfl) (show (0 : Nat) ≤ lim0 + lim1 by omega) ?_
    cases h
    exact hret (uF b_t_choices_rows b_t_choices_seen) _ _ _ _ _ dX7_unlike_10 rfl (hP.sub [0, 1, 2, 3, 4, 5, 6, 7, 8] rfl) (hD.sub [0, 1, 2, 3, 4, 5, 6, 7, 8] (by decide) rfl) hS
-- X7_isImage
theorem dX7_isImage_0 : decode cX7_isImage 0 = .ok (.iload_n 0, 1) := by decide +kernel
theorem dX7_isImage_1 : decode cX7_isImage 1 = .ok (.ifCond .lt 12, 3) := by decide +kernel
theorem dX7_isImage_4 : decode cX7_isImage 4 = .ok (.iload_n 0, 1) := by decide +kernel
theorem dX7_isImage_5 : decode cX7_isImage 5 = .ok (.iconst 3, 1) := by decide +kernel
theorem dX7_isImage_6 : decode cX7_isImage 6 = .ok (.if_icmp .ge 7, 3) := by decide +kernel
theorem dX7_isImage_9 : decode cX7_isImage 9 = .ok (.iconst 1, 1) := by decide +kernel
theorem dX7_isImage_10 : decode cX7_isImage 10 = .ok (.goto 4, 3) := by decide +kernel
theorem dX7_isImage_13 : decode cX7_isImage 13 = .ok (.iconst 0, 1) := by decide +kernel
theorem dX7_isImage_14 : decode cX7_isImage 14 = .ok (.ireturn, 1) := by decide +kernel
noncomputable def fX7_isImage  (v0 : Int32) : Int32 := (if v0 < 0 then (0) else (if 3 ≤ v0 then (0) else (1)))
set_option maxHeartbeats 4000000 in
set_option maxRecDepth 100000 in
theorem ctX7_isImage (l : Launch) (g : GT) (v0 : Int32) (o : Int32) (h : fX7_isImage v0 = o) : Met l yX7_isImage (Cond.code yX7_isImage cX7_isImage 1 (some .boolean) :: Tw) ⟨0, 0, 0, 0⟩ (va_Pc [.int v0] (roB g [])) (vp_Si (fun x => x = o ∧ (x = 0 ∨ x = 1))) 0 0 (fun _ => False) := by
  refine ro_metz (by decide) (Nat.le_of_ble_eq_true rfl) (lv0 := [(0, .int v0)]) rfl ?_
  intro p e s m args below meth c ls Q cx hret hG hP hl
  have hx := cx.1
  have hb := cx.2.1
  have hG0 := hG
  unfold fX7_isImage at h
  refine lv_iload_n hx hb dX7_isImage_0 rfl (lv_at hl 0 rfl) ?_
  refine lv_if_lt (tgt := 13) hx hb dX7_isImage_1 (by decide) (fun c1 => ?_) (fun c1 => ?_)
  · have h := itp c1 h
    refine lv_iconst (v := 0) hx hb dX7_isImage_13 (by decide) ?_
    exact hret _ _ _ dX7_isImage_14 (by decide) h
  · have h := itn c1 h
    refine lv_iload_n hx hb dX7_isImage_4 rfl (lv_at hl 0 rfl) ?_
    refine lv_iconst (v := 3) hx hb dX7_isImage_5 (by decide) ?_
    refine lv_icmp_ge (tgt := 13) hx hb dX7_isImage_6 (by decide) (fun c2 => ?_) (fun c2 => ?_)
    · have h := itp c2 h
      refine lv_iconst (v := 0) hx hb dX7_isImage_13 (by decide) ?_
      exact hret _ _ _ dX7_isImage_14 (by decide) h
    · have h := itn c2 h
      refine lv_iconst (v := 1) hx hb dX7_isImage_9 (by decide) ?_
      refine lv_goto (tgt := 14) hx hb dX7_isImage_10 (by decide) ?_
      exact hret _ _ _ dX7_isImage_14 (by decide) h
-- X7_imagesBar
theorem dX7_imagesBar_0 : decode cX7_imagesBar 0 = .ok (.iload_n 1, 1) := by decide +kernel
theorem dX7_imagesBar_1 : decode cX7_imagesBar 1 = .ok (.invokestatic 357, 3) := by decide +kernel
theorem dX7_imagesBar_4 : decode cX7_imagesBar 4 = .ok (.ifCond .eq 10, 3) := by decide +kernel
theorem dX7_imagesBar_7 : decode cX7_imagesBar 7 = .ok (.iload_n 2, 1) := by decide +kernel
theorem dX7_imagesBar_8 : decode cX7_imagesBar 8 = .ok (.invokestatic 357, 3) := by decide +kernel
theorem dX7_imagesBar_11 : decode cX7_imagesBar 11 = .ok (.ifCond .ne 6, 3) := by decide +kernel
theorem dX7_imagesBar_14 : decode cX7_imagesBar 14 = .ok (.bipush (-2), 2) := by decide +kernel
theorem dX7_imagesBar_16 : decode cX7_imagesBar 16 = .ok (.ireturn, 1) := by decide +kernel
theorem dX7_imagesBar_17 : decode cX7_imagesBar 17 = .ok (.aload_n 0, 1) := by decide +kernel
theorem dX7_imagesBar_18 : decode cX7_imagesBar 18 = .ok (.getfield 34, 3) := by decide +kernel
theorem dX7_imagesBar_21 : decode cX7_imagesBar 21 = .ok (.iload_n 1, 1) := by decide +kernel
theorem dX7_imagesBar_22 : decode cX7_imagesBar 22 = .ok (.aaload, 1) := by decide +kernel
theorem dX7_imagesBar_23 : decode cX7_imagesBar 23 = .ok (.getfield 139, 3) := by decide +kernel
theorem dX7_imagesBar_26 : decode cX7_imagesBar 26 = .ok (.ifCond .eq 19, 3) := by decide +kernel
theorem dX7_imagesBar_29 : decode cX7_imagesBar 29 = .ok (.aload_n 0, 1) := by decide +kernel
theorem dX7_imagesBar_30 : decode cX7_imagesBar 30 = .ok (.getfield 34, 3) := by decide +kernel
theorem dX7_imagesBar_33 : decode cX7_imagesBar 33 = .ok (.iload_n 2, 1) := by decide +kernel
theorem dX7_imagesBar_34 : decode cX7_imagesBar 34 = .ok (.aaload, 1) := by decide +kernel
theorem dX7_imagesBar_35 : decode cX7_imagesBar 35 = .ok (.getfield 139, 3) := by decide +kernel
theorem dX7_imagesBar_38 : decode cX7_imagesBar 38 = .ok (.ifCond .eq 7, 3) := by decide +kernel
theorem dX7_imagesBar_41 : decode cX7_imagesBar 41 = .ok (.iconst 0, 1) := by decide +kernel
theorem dX7_imagesBar_42 : decode cX7_imagesBar 42 = .ok (.goto 5, 3) := by decide +kernel
theorem dX7_imagesBar_45 : decode cX7_imagesBar 45 = .ok (.bipush (-6), 2) := by decide +kernel
theorem dX7_imagesBar_47 : decode cX7_imagesBar 47 = .ok (.ireturn, 1) := by decide +kernel
noncomputable def fX7_imagesBar  (t_images_0_told : Int32) (t_images_1_told : Int32) (t_images_2_told : Int32) (v1 : Int32) (v2 : Int32) : Option (Int32) := (if (fX7_isImage v1) = 0 then some (-2) else (if (fX7_isImage v2) = 0 then some (-2) else (if v1 = 0 then (if t_images_0_told = 0 then some (-6) else (if v2 = 0 then (if t_images_0_told = 0 then some (-6) else some (0)) else (if v2 = 1 then (if t_images_1_told = 0 then some (-6) else some (0)) else (if v2 = 2 then (if t_images_2_told = 0 then some (-6) else some (0)) else none)))) else (if v1 = 1 then (if t_images_1_told = 0 then some (-6) else (if v2 = 0 then (if t_images_0_told = 0 then some (-6) else some (0)) else (if v2 = 1 then (if t_images_1_told = 0 then some (-6) else some (0)) else (if v2 = 2 then (if t_images_2_told = 0 then some (-6) else some (0)) else none)))) else (if v1 = 2 then (if t_images_2_told = 0 then some (-6) else (if v2 = 0 then (if t_images_0_told = 0 then some (-6) else some (0)) else (if v2 = 1 then (if t_images_1_told = 0 then some (-6) else some (0)) else (if v2 = 2 then (if t_images_2_told = 0 then some (-6) else some (0)) else none)))) else none)))))
set_option maxHeartbeats 4000000 in
set_option maxRecDepth 100000 in
theorem ctX7_imagesBar (l : Launch) (g : GT) (a_t : Nat → Nat) (a_t_tape : Nat → Nat) (a_t_reader : Nat → Nat) (a_t_now : Nat → Nat) (a_t_choices : Nat → Nat) (a_t_ways : Nat → Nat) (a_t_stress : Nat → Nat) (a_t_images_0 : Nat → Nat) (a_t_images_1 : Nat → Nat) (a_t_images_2 : Nat → Nat) (t_images_0_told : Int32) (t_images_0_lines : Int32) (t_images_0_kinds : Int32) (t_images_0_acts : Int32) (t_images_1_told : Int32) (t_images_1_lines : Int32) (t_images_1_kinds : Int32) (t_images_1_acts : Int32) (t_images_2_told : Int32) (t_images_2_lines : Int32) (t_images_2_kinds : Int32) (t_images_2_acts : Int32) (v1 : Int32) (v2 : Int32) (o : Int32) (h : fX7_imagesBar t_images_0_told t_images_1_told t_images_2_told v1 v2 = some o) : Met l yX7_imagesBar (Cond.code yX7_imagesBar cX7_imagesBar 3 (some .int) :: Tw) ⟨1, 0, 0, 20⟩ (va_Pc [.ref ((a_t 0)), .int v1, .int v2] (roB g [((a_t 0), .inr (6, [.ref (a_t_tape 0), .ref (a_t_reader 0), .ref (a_t_now 0), .ref (a_t 4), .ref (a_t_choices 0), .ref (a_t_ways 0), .ref (a_t_stress 0)])), ((a_t 4), .inl (g.2.2.1 4, 3, .inr (.inr (.inr (.inr (iF (a_t_images_0 0) (a_t_images_1 0) (a_t_images_2 0))))))), ((a_t_images_0 0), .inr (1, [.ref (a_t_images_0 1), .ref (a_t_images_0 2), .ref (a_t_images_0 3), .ref (a_t_images_0 4), .ref (a_t_images_0 5), .int t_images_0_told, .int t_images_0_lines, .int t_images_0_kinds, .int t_images_0_acts])), ((a_t_images_1 0), .inr (1, [.ref (a_t_images_1 1), .ref (a_t_images_1 2), .ref (a_t_images_1 3), .ref (a_t_images_1 4), .ref (a_t_images_1 5), .int t_images_1_told, .int t_images_1_lines, .int t_images_1_kinds, .int t_images_1_acts])), ((a_t_images_2 0), .inr (1, [.ref (a_t_images_2 1), .ref (a_t_images_2 2), .ref (a_t_images_2 3), .ref (a_t_images_2 4), .ref (a_t_images_2 5), .int t_images_2_told, .int t_images_2_lines, .int t_images_2_kinds, .int t_images_2_acts]))])) (vp_Si (fun x => x = o)) 0 0 (fun _ => False) := by
  refine ro_meti (by decide) (Nat.le_of_ble_eq_true rfl) (lv0 := [(0, .ref ((a_t 0))), (1, .int v1), (2, .int v2)]) rfl ?_
  intro p e s m args below meth c ls Q cx hret hG hP hl
  have hx := cx.1
  have hb := cx.2.1
  have hG0 := hG
  unfold fX7_imagesBar at h
  refine lv_iload_n hx hb dX7_imagesBar_0 rfl (lv_at hl 1 rfl) ?_
  refine ro_z (runS (As := [.int v1]) (rest := []) cx hl.1 (ctX7_isImage l g v1 (fX7_isImage v1) rfl) kmX7_isImage ksX7_isImage lm_X7_357 ⟨rfl, rfl⟩ ⟨Nat.le_of_ble_eq_true rfl, Nat.le_of_ble_eq_true rfl⟩ (roS hG (hP.sub [] rfl)) rfl rfl (Nat.le_of_ble_eq_true rfl) dX7_imagesBar_1 ⟨Nat.le_of_ble_eq_true rfl, Nat.le_of_ble_eq_true rfl⟩) (fun hz1 => ?_)
  refine lv_if_eq (tgt := 14) hx hb dX7_imagesBar_4 (by decide) (fun c2 => ?_) (fun c2 => ?_)
  · have h := itp c2 h
    refine lv_bipush (v := -2) hx hb dX7_imagesBar_14 (by decide) ?_
    exact hret _ _ _ dX7_imagesBar_16 (Option.some.inj h)
  · have h := itn c2 h
    refine lv_iload_n hx hb dX7_imagesBar_7 rfl (lv_at hl 2 rfl) ?_
    refine ro_z (runS (As := [.int v2]) (rest := []) cx hl.1 (ctX7_isImage l g v2 (fX7_isImage v2) rfl) kmX7_isImage ksX7_isImage lm_X7_357 ⟨rfl, rfl⟩ ⟨Nat.le_of_ble_eq_true rfl, Nat.le_of_ble_eq_true rfl⟩ (roS hG (hP.sub [] rfl)) rfl rfl (Nat.le_of_ble_eq_true rfl) dX7_imagesBar_8 ⟨Nat.le_of_ble_eq_true rfl, Nat.le_of_ble_eq_true rfl⟩) (fun hz3 => ?_)
    refine lv_if_ne (tgt := 17) hx hb dX7_imagesBar_11 (by decide) (fun c4 => ?_) (fun c4 => ?_)
    · have h := itn c4 h
      refine lv_aload_n hx hb dX7_imagesBar_17 rfl (lv_at hl 0 rfl) ?_
      refine xa_get (C := RX7) (T := TX7) (N := 7) cx hG hP 0 rfl rfl uX7 3 (by decide) lf_X7_34 rfl dX7_imagesBar_18 ?_
      refine lv_iload_n hx hb dX7_imagesBar_21 rfl (lv_at hl 1 rfl) ?_
      by_cases e5 : v1 = 0
      · have h := itp e5 h
        refine xa_ald3 (k := 0) cx hG hP 1 rfl (by rw [e5]; decide) rfl dX7_imagesBar_22 ?_
        refine xa_getN (C := RX1) (T := TX1) (N := 9) cx hG hP 2 rfl rfl uX1 5 (by decide) nf_5 rfl dX7_imagesBar_23 ?_
        refine lv_if_eq (tgt := 45) hx hb dX7_imagesBar_26 (by decide) (fun c6 => ?_) (fun c6 => ?_)
        · have h := itp c6 h
          refine lv_bipush (v := -6) hx hb dX7_imagesBar_45 (by decide) ?_
          exact hret _ _ _ dX7_imagesBar_47 (Option.some.inj h)
        · have h := itn c6 h
          refine lv_aload_n hx hb dX7_imagesBar_29 rfl (lv_at hl 0 rfl) ?_
          refine xa_get (C := RX7) (T := TX7) (N := 7) cx hG hP 0 rfl rfl uX7 3 (by decide) lf_X7_34 rfl dX7_imagesBar_30 ?_
          refine lv_iload_n hx hb dX7_imagesBar_33 rfl (lv_at hl 2 rfl) ?_
          by_cases e7 : v2 = 0
          · have h := itp e7 h
            refine xa_ald3 (k := 0) cx hG hP 1 rfl (by rw [e7]; decide) rfl dX7_imagesBar_34 ?_
            refine xa_getN (C := RX1) (T := TX1) (N := 9) cx hG hP 2 rfl rfl uX1 5 (by decide) nf_5 rfl dX7_imagesBar_35 ?_
            refine lv_if_eq (tgt := 45) hx hb dX7_imagesBar_38 (by decide) (fun c8 => ?_) (fun c8 => ?_)
            · have h := itp c8 h
              refine lv_bipush (v := -6) hx hb dX7_imagesBar_45 (by decide) ?_
              exact hret _ _ _ dX7_imagesBar_47 (Option.some.inj h)
            · have h := itn c8 h
              refine lv_iconst (v := 0) hx hb dX7_imagesBar_41 (by decide) ?_
              refine lv_goto (tgt := 47) hx hb dX7_imagesBar_42 (by decide) ?_
              exact hret _ _ _ dX7_imagesBar_47 (Option.some.inj h)
          · have h := itn e7 h
            by_cases e9 : v2 = 1
            · have h := itp e9 h
              refine xa_ald3 (k := 1) cx hG hP 1 rfl (by rw [e9]; decide) rfl dX7_imagesBar_34 ?_
              refine xa_getN (C := RX1) (T := TX1) (N := 9) cx hG hP 3 rfl rfl uX1 5 (by decide) nf_5 rfl dX7_imagesBar_35 ?_
              refine lv_if_eq (tgt := 45) hx hb dX7_imagesBar_38 (by decide) (fun c10 => ?_) (fun c10 => ?_)
              · have h := itp c10 h
                refine lv_bipush (v := -6) hx hb dX7_imagesBar_45 (by decide) ?_
                exact hret _ _ _ dX7_imagesBar_47 (Option.some.inj h)
              · have h := itn c10 h
                refine lv_iconst (v := 0) hx hb dX7_imagesBar_41 (by decide) ?_
                refine lv_goto (tgt := 47) hx hb dX7_imagesBar_42 (by decide) ?_
                exact hret _ _ _ dX7_imagesBar_47 (Option.some.inj h)
            · have h := itn e9 h
              by_cases e11 : v2 = 2
              · have h := itp e11 h
                refine xa_ald3 (k := 2) cx hG hP 1 rfl (by rw [e11]; decide) rfl dX7_imagesBar_34 ?_
                refine xa_getN (C := RX1) (T := TX1) (N := 9) cx hG hP 4 rfl rfl uX1 5 (by decide) nf_5 rfl dX7_imagesBar_35 ?_
                refine lv_if_eq (tgt := 45) hx hb dX7_imagesBar_38 (by decide) (fun c12 => ?_) (fun c12 => ?_)
                · have h := itp c12 h
                  refine lv_bipush (v := -6) hx hb dX7_imagesBar_45 (by decide) ?_
                  exact hret _ _ _ dX7_imagesBar_47 (Option.some.inj h)
                · have h := itn c12 h
                  refine lv_iconst (v := 0) hx hb dX7_imagesBar_41 (by decide) ?_
                  refine lv_goto (tgt := 47) hx hb dX7_imagesBar_42 (by decide) ?_
                  exact hret _ _ _ dX7_imagesBar_47 (Option.some.inj h)
              · have h := itn e11 h
                cases h
      · have h := itn e5 h
        by_cases e13 : v1 = 1
        · have h := itp e13 h
          refine xa_ald3 (k := 1) cx hG hP 1 rfl (by rw [e13]; decide) rfl dX7_imagesBar_22 ?_
          refine xa_getN (C := RX1) (T := TX1) (N := 9) cx hG hP 3 rfl rfl uX1 5 (by decide) nf_5 rfl dX7_imagesBar_23 ?_
          refine lv_if_eq (tgt := 45) hx hb dX7_imagesBar_26 (by decide) (fun c14 => ?_) (fun c14 => ?_)
          · have h := itp c14 h
            refine lv_bipush (v := -6) hx hb dX7_imagesBar_45 (by decide) ?_
            exact hret _ _ _ dX7_imagesBar_47 (Option.some.inj h)
          · have h := itn c14 h
            refine lv_aload_n hx hb dX7_imagesBar_29 rfl (lv_at hl 0 rfl) ?_
            refine xa_get (C := RX7) (T := TX7) (N := 7) cx hG hP 0 rfl rfl uX7 3 (by decide) lf_X7_34 rfl dX7_imagesBar_30 ?_
            refine lv_iload_n hx hb dX7_imagesBar_33 rfl (lv_at hl 2 rfl) ?_
            by_cases e15 : v2 = 0
            · have h := itp e15 h
              refine xa_ald3 (k := 0) cx hG hP 1 rfl (by rw [e15]; decide) rfl dX7_imagesBar_34 ?_
              refine xa_getN (C := RX1) (T := TX1) (N := 9) cx hG hP 2 rfl rfl uX1 5 (by decide) nf_5 rfl dX7_imagesBar_35 ?_
              refine lv_if_eq (tgt := 45) hx hb dX7_imagesBar_38 (by decide) (fun c16 => ?_) (fun c16 => ?_)
              · have h := itp c16 h
                refine lv_bipush (v := -6) hx hb dX7_imagesBar_45 (by decide) ?_
                exact hret _ _ _ dX7_imagesBar_47 (Option.some.inj h)
              · have h := itn c16 h
                refine lv_iconst (v := 0) hx hb dX7_imagesBar_41 (by decide) ?_
                refine lv_goto (tgt := 47) hx hb dX7_imagesBar_42 (by decide) ?_
                exact hret _ _ _ dX7_imagesBar_47 (Option.some.inj h)
            · have h := itn e15 h
              by_cases e17 : v2 = 1
              · have h := itp e17 h
                refine xa_ald3 (k := 1) cx hG hP 1 rfl (by rw [e17]; decide) rfl dX7_imagesBar_34 ?_
                refine xa_getN (C := RX1) (T := TX1) (N := 9) cx hG hP 3 rfl rfl uX1 5 (by decide) nf_5 rfl dX7_imagesBar_35 ?_
                refine lv_if_eq (tgt := 45) hx hb dX7_imagesBar_38 (by decide) (fun c18 => ?_) (fun c18 => ?_)
                · have h := itp c18 h
                  refine lv_bipush (v := -6) hx hb dX7_imagesBar_45 (by decide) ?_
                  exact hret _ _ _ dX7_imagesBar_47 (Option.some.inj h)
                · have h := itn c18 h
                  refine lv_iconst (v := 0) hx hb dX7_imagesBar_41 (by decide) ?_
                  refine lv_goto (tgt := 47) hx hb dX7_imagesBar_42 (by decide) ?_
                  exact hret _ _ _ dX7_imagesBar_47 (Option.some.inj h)
              · have h := itn e17 h
                by_cases e19 : v2 = 2
                · have h := itp e19 h
                  refine xa_ald3 (k := 2) cx hG hP 1 rfl (by rw [e19]; decide) rfl dX7_imagesBar_34 ?_
                  refine xa_getN (C := RX1) (T := TX1) (N := 9) cx hG hP 4 rfl rfl uX1 5 (by decide) nf_5 rfl dX7_imagesBar_35 ?_
                  refine lv_if_eq (tgt := 45) hx hb dX7_imagesBar_38 (by decide) (fun c20 => ?_) (fun c20 => ?_)
                  · have h := itp c20 h
                    refine lv_bipush (v := -6) hx hb dX7_imagesBar_45 (by decide) ?_
                    exact hret _ _ _ dX7_imagesBar_47 (Option.some.inj h)
                  · have h := itn c20 h
                    refine lv_iconst (v := 0) hx hb dX7_imagesBar_41 (by decide) ?_
                    refine lv_goto (tgt := 47) hx hb dX7_imagesBar_42 (by decide) ?_
                    exact hret _ _ _ dX7_imagesBar_47 (Option.some.inj h)
                · have h := itn e19 h
                  cases h
        · have h := itn e13 h
          by_cases e21 : v1 = 2
          · have h := itp e21 h
            refine xa_ald3 (k := 2) cx hG hP 1 rfl (by rw [e21]; decide) rfl dX7_imagesBar_22 ?_
            refine xa_getN (C := RX1) (T := TX1) (N := 9) cx hG hP 4 rfl rfl uX1 5 (by decide) nf_5 rfl dX7_imagesBar_23 ?_
            refine lv_if_eq (tgt := 45) hx hb dX7_imagesBar_26 (by decide) (fun c22 => ?_) (fun c22 => ?_)
            · have h := itp c22 h
              refine lv_bipush (v := -6) hx hb dX7_imagesBar_45 (by decide) ?_
              exact hret _ _ _ dX7_imagesBar_47 (Option.some.inj h)
            · have h := itn c22 h
              refine lv_aload_n hx hb dX7_imagesBar_29 rfl (lv_at hl 0 rfl) ?_
              refine xa_get (C := RX7) (T := TX7) (N := 7) cx hG hP 0 rfl rfl uX7 3 (by decide) lf_X7_34 rfl dX7_imagesBar_30 ?_
              refine lv_iload_n hx hb dX7_imagesBar_33 rfl (lv_at hl 2 rfl) ?_
              by_cases e23 : v2 = 0
              · have h := itp e23 h
                refine xa_ald3 (k := 0) cx hG hP 1 rfl (by rw [e23]; decide) rfl dX7_imagesBar_34 ?_
                refine xa_getN (C := RX1) (T := TX1) (N := 9) cx hG hP 2 rfl rfl uX1 5 (by decide) nf_5 rfl dX7_imagesBar_35 ?_
                refine lv_if_eq (tgt := 45) hx hb dX7_imagesBar_38 (by decide) (fun c24 => ?_) (fun c24 => ?_)
                · have h := itp c24 h
                  refine lv_bipush (v := -6) hx hb dX7_imagesBar_45 (by decide) ?_
                  exact hret _ _ _ dX7_imagesBar_47 (Option.some.inj h)
                · have h := itn c24 h
                  refine lv_iconst (v := 0) hx hb dX7_imagesBar_41 (by decide) ?_
                  refine lv_goto (tgt := 47) hx hb dX7_imagesBar_42 (by decide) ?_
                  exact hret _ _ _ dX7_imagesBar_47 (Option.some.inj h)
              · have h := itn e23 h
                by_cases e25 : v2 = 1
                · have h := itp e25 h
                  refine xa_ald3 (k := 1) cx hG hP 1 rfl (by rw [e25]; decide) rfl dX7_imagesBar_34 ?_
                  refine xa_getN (C := RX1) (T := TX1) (N := 9) cx hG hP 3 rfl rfl uX1 5 (by decide) nf_5 rfl dX7_imagesBar_35 ?_
                  refine lv_if_eq (tgt := 45) hx hb dX7_imagesBar_38 (by decide) (fun c26 => ?_) (fun c26 => ?_)
                  · have h := itp c26 h
                    refine lv_bipush (v := -6) hx hb dX7_imagesBar_45 (by decide) ?_
                    exact hret _ _ _ dX7_imagesBar_47 (Option.some.inj h)
                  · have h := itn c26 h
                    refine lv_iconst (v := 0) hx hb dX7_imagesBar_41 (by decide) ?_
                    refine lv_goto (tgt := 47) hx hb dX7_imagesBar_42 (by decide) ?_
                    exact hret _ _ _ dX7_imagesBar_47 (Option.some.inj h)
                · have h := itn e25 h
                  by_cases e27 : v2 = 2
                  · have h := itp e27 h
                    refine xa_ald3 (k := 2) cx hG hP 1 rfl (by rw [e27]; decide) rfl dX7_imagesBar_34 ?_
                    refine xa_getN (C := RX1) (T := TX1) (N := 9) cx hG hP 4 rfl rfl uX1 5 (by decide) nf_5 rfl dX7_imagesBar_35 ?_
                    refine lv_if_eq (tgt := 45) hx hb dX7_imagesBar_38 (by decide) (fun c28 => ?_) (fun c28 => ?_)
                    · have h := itp c28 h
                      refine lv_bipush (v := -6) hx hb dX7_imagesBar_45 (by decide) ?_
                      exact hret _ _ _ dX7_imagesBar_47 (Option.some.inj h)
                    · have h := itn c28 h
                      refine lv_iconst (v := 0) hx hb dX7_imagesBar_41 (by decide) ?_
                      refine lv_goto (tgt := 47) hx hb dX7_imagesBar_42 (by decide) ?_
                      exact hret _ _ _ dX7_imagesBar_47 (Option.some.inj h)
                  · have h := itn e27 h
                    cases h
          · have h := itn e21 h
            cases h
    · have h := itp c4 h
      refine lv_bipush (v := -2) hx hb dX7_imagesBar_14 (by decide) ?_
      exact hret _ _ _ dX7_imagesBar_16 (Option.some.inj h)
-- X1_typeAt
theorem dX1_typeAt_0 : decode cX1_typeAt 0 = .ok (.aload_n 0, 1) := by decide +kernel
theorem dX1_typeAt_1 : decode cX1_typeAt 1 = .ok (.invokevirtual 55, 3) := by decide +kernel
theorem dX1_typeAt_4 : decode cX1_typeAt 4 = .ok (.iload_n 1, 1) := by decide +kernel
theorem dX1_typeAt_5 : decode cX1_typeAt 5 = .ok (.invokestatic 58, 3) := by decide +kernel
theorem dX1_typeAt_8 : decode cX1_typeAt 8 = .ok (.ireturn, 1) := by decide +kernel
noncomputable def fX1_typeAt  (t_rows : Nat → Int32) (t_acts : Int32) (v1 : Int32) : Option (Int32) := (fX1_row t_rows t_acts).bind fun r1 => some (fX3_typeAt r1 v1)
set_option maxHeartbeats 4000000 in
set_option maxRecDepth 100000 in
theorem ctX1_typeAt (l : Launch) (g : GT) (a_t : Nat → Nat) (t_told : Int32) (t_lines : Int32) (t_kinds : Int32) (t_acts : Int32) (t_rows : Nat → Int32) (v1 : Int32) (o : Int32) (h : fX1_typeAt t_rows t_acts v1 = some o) : Met l yX1_typeAt (Cond.code yX1_typeAt cX1_typeAt 2 (some .int) :: Tw) ⟨1, 0, 0, 21⟩ (va_Pc [.ref ((a_t 0)), .int v1] (roB g [((a_t 0), .inr (1, [.ref (a_t 1), .ref (a_t 2), .ref (a_t 3), .ref (a_t 4), .ref (a_t 5), .int t_told, .int t_lines, .int t_kinds, .int t_acts])), ((a_t 3), .inl (g.2.2.1 0, 31, .inl t_rows))])) (vp_Si (fun x => x = o)) 0 0 (fun _ => False) := by
  refine ro_meti (by decide) (Nat.le_of_ble_eq_true rfl) (lv0 := [(0, .ref ((a_t 0))), (1, .int v1)]) rfl ?_
  intro p e s m args below meth c ls Q cx hret hG hP hl
  have hx := cx.1
  have hb := cx.2.1
  have hG0 := hG
  unfold fX1_typeAt at h
  refine lv_aload_n hx hb dX1_typeAt_0 rfl (lv_at hl 0 rfl) ?_
  obtain ⟨r1, hr2, h⟩ := bnd h
  refine ro_i (runV (As := []) (rest := []) cx hl.1 (ctX1_row l g a_t t_told t_lines t_kinds t_acts t_rows r1 hr2) kmX1_row kvX1_row lm_X1_55 ⟨rfl, rfl⟩ ⟨Nat.le_of_ble_eq_true rfl, Nat.le_of_ble_eq_true rfl⟩ (roV (q0 := 0) (ci := 1) hG (hP.sub [0, 1] rfl) hP rfl rfl) rfl rfl (Nat.le_of_ble_eq_true rfl) dX1_typeAt_1 ⟨Nat.le_of_ble_eq_true rfl, Nat.le_of_ble_eq_true rfl⟩) ?_
  refine lv_iload_n hx hb dX1_typeAt_4 rfl (lv_at hl 1 rfl) ?_
  refine ro_i (runSN (As := [.int r1, .int v1]) (rest := []) hG cx hl.1 (ctX3_typeAt l g r1 v1 (fX3_typeAt r1 v1) rfl) kmX3_typeAt ksX3_typeAt nm_22 ⟨rfl, rfl⟩ ⟨Nat.le_of_ble_eq_true rfl, Nat.le_of_ble_eq_true rfl⟩ (roS hG (hP.sub [] rfl)) rfl rfl (Nat.le_of_ble_eq_true rfl) dX1_typeAt_5 ⟨Nat.le_of_ble_eq_true rfl, Nat.le_of_ble_eq_true rfl⟩) ?_
  exact hret _ _ _ dX1_typeAt_8 (Option.some.inj h)
-- X1_longestCommon
theorem dX1_longestCommon_0 : decode cX1_longestCommon 0 = .ok (.bipush 9, 2) := by decide +kernel
theorem dX1_longestCommon_2 : decode cX1_longestCommon 2 = .ok (.newarray .int, 2) := by decide +kernel
theorem dX1_longestCommon_4 : decode cX1_longestCommon 4 = .ok (.astore_n 2, 1) := by decide +kernel
theorem dX1_longestCommon_5 : decode cX1_longestCommon 5 = .ok (.iconst 0, 1) := by decide +kernel
theorem dX1_longestCommon_6 : decode cX1_longestCommon 6 = .ok (.istore_n 3, 1) := by decide +kernel
theorem dX1_longestCommon_7 : decode cX1_longestCommon 7 = .ok (.iload_n 3, 1) := by decide +kernel
theorem dX1_longestCommon_8 : decode cX1_longestCommon 8 = .ok (.aload_n 0, 1) := by decide +kernel
theorem dX1_longestCommon_9 : decode cX1_longestCommon 9 = .ok (.invokevirtual 51, 3) := by decide +kernel
theorem dX1_longestCommon_12 : decode cX1_longestCommon 12 = .ok (.if_icmp .ge 97, 3) := by decide +kernel
theorem dX1_longestCommon_15 : decode cX1_longestCommon 15 = .ok (.iconst 0, 1) := by decide +kernel
theorem dX1_longestCommon_16 : decode cX1_longestCommon 16 = .ok (.istore 4, 2) := by decide +kernel
theorem dX1_longestCommon_18 : decode cX1_longestCommon 18 = .ok (.iconst 1, 1) := by decide +kernel
theorem dX1_longestCommon_19 : decode cX1_longestCommon 19 = .ok (.istore 5, 2) := by decide +kernel
theorem dX1_longestCommon_21 : decode cX1_longestCommon 21 = .ok (.iload 5, 2) := by decide +kernel
theorem dX1_longestCommon_23 : decode cX1_longestCommon 23 = .ok (.aload_n 1, 1) := by decide +kernel
theorem dX1_longestCommon_24 : decode cX1_longestCommon 24 = .ok (.invokevirtual 51, 3) := by decide +kernel
theorem dX1_longestCommon_27 : decode cX1_longestCommon 27 = .ok (.if_icmp .gt 76, 3) := by decide +kernel
theorem dX1_longestCommon_30 : decode cX1_longestCommon 30 = .ok (.iload 5, 2) := by decide +kernel
theorem dX1_longestCommon_32 : decode cX1_longestCommon 32 = .ok (.bipush 8, 2) := by decide +kernel
theorem dX1_longestCommon_34 : decode cX1_longestCommon 34 = .ok (.if_icmp .gt 69, 3) := by decide +kernel
theorem dX1_longestCommon_37 : decode cX1_longestCommon 37 = .ok (.aload_n 2, 1) := by decide +kernel
theorem dX1_longestCommon_38 : decode cX1_longestCommon 38 = .ok (.iload 5, 2) := by decide +kernel
theorem dX1_longestCommon_40 : decode cX1_longestCommon 40 = .ok (.iaload, 1) := by decide +kernel
theorem dX1_longestCommon_41 : decode cX1_longestCommon 41 = .ok (.istore 6, 2) := by decide +kernel
theorem dX1_longestCommon_43 : decode cX1_longestCommon 43 = .ok (.aload_n 0, 1) := by decide +kernel
theorem dX1_longestCommon_44 : decode cX1_longestCommon 44 = .ok (.iload_n 3, 1) := by decide +kernel
theorem dX1_longestCommon_45 : decode cX1_longestCommon 45 = .ok (.invokevirtual 131, 3) := by decide +kernel
theorem dX1_longestCommon_48 : decode cX1_longestCommon 48 = .ok (.aload_n 1, 1) := by decide +kernel
theorem dX1_longestCommon_49 : decode cX1_longestCommon 49 = .ok (.iload 5, 2) := by decide +kernel
theorem dX1_longestCommon_51 : decode cX1_longestCommon 51 = .ok (.iconst 1, 1) := by decide +kernel
theorem dX1_longestCommon_52 : decode cX1_longestCommon 52 = .ok (.isub, 1) := by decide +kernel
theorem dX1_longestCommon_53 : decode cX1_longestCommon 53 = .ok (.invokevirtual 131, 3) := by decide +kernel
theorem dX1_longestCommon_56 : decode cX1_longestCommon 56 = .ok (.if_icmp .ne 7, 3) := by decide +kernel
theorem dX1_longestCommon_59 : decode cX1_longestCommon 59 = .ok (.iconst 1, 1) := by decide +kernel
theorem dX1_longestCommon_60 : decode cX1_longestCommon 60 = .ok (.goto 4, 3) := by decide +kernel
theorem dX1_longestCommon_63 : decode cX1_longestCommon 63 = .ok (.iconst 0, 1) := by decide +kernel
theorem dX1_longestCommon_64 : decode cX1_longestCommon 64 = .ok (.istore 7, 2) := by decide +kernel
theorem dX1_longestCommon_66 : decode cX1_longestCommon 66 = .ok (.aload_n 2, 1) := by decide +kernel
theorem dX1_longestCommon_67 : decode cX1_longestCommon 67 = .ok (.iload 5, 2) := by decide +kernel
theorem dX1_longestCommon_69 : decode cX1_longestCommon 69 = .ok (.iload 7, 2) := by decide +kernel
theorem dX1_longestCommon_71 : decode cX1_longestCommon 71 = .ok (.ifCond .eq 10, 3) := by decide +kernel
theorem dX1_longestCommon_74 : decode cX1_longestCommon 74 = .ok (.iload 4, 2) := by decide +kernel
theorem dX1_longestCommon_76 : decode cX1_longestCommon 76 = .ok (.iconst 1, 1) := by decide +kernel
theorem dX1_longestCommon_77 : decode cX1_longestCommon 77 = .ok (.iadd, 1) := by decide +kernel
theorem dX1_longestCommon_78 : decode cX1_longestCommon 78 = .ok (.goto 14, 3) := by decide +kernel
theorem dX1_longestCommon_81 : decode cX1_longestCommon 81 = .ok (.iload 6, 2) := by decide +kernel
theorem dX1_longestCommon_83 : decode cX1_longestCommon 83 = .ok (.aload_n 2, 1) := by decide +kernel
theorem dX1_longestCommon_84 : decode cX1_longestCommon 84 = .ok (.iload 5, 2) := by decide +kernel
theorem dX1_longestCommon_86 : decode cX1_longestCommon 86 = .ok (.iconst 1, 1) := by decide +kernel
theorem dX1_longestCommon_87 : decode cX1_longestCommon 87 = .ok (.isub, 1) := by decide +kernel
theorem dX1_longestCommon_88 : decode cX1_longestCommon 88 = .ok (.iaload, 1) := by decide +kernel
theorem dX1_longestCommon_89 : decode cX1_longestCommon 89 = .ok (.invokestatic 133, 3) := by decide +kernel
theorem dX1_longestCommon_92 : decode cX1_longestCommon 92 = .ok (.iastore, 1) := by decide +kernel
theorem dX1_longestCommon_93 : decode cX1_longestCommon 93 = .ok (.iload 6, 2) := by decide +kernel
theorem dX1_longestCommon_95 : decode cX1_longestCommon 95 = .ok (.istore 4, 2) := by decide +kernel
theorem dX1_longestCommon_97 : decode cX1_longestCommon 97 = .ok (.iinc 5 1, 3) := by decide +kernel
theorem dX1_longestCommon_100 : decode cX1_longestCommon 100 = .ok (.goto (-79), 3) := by decide +kernel
theorem dX1_longestCommon_103 : decode cX1_longestCommon 103 = .ok (.iinc 3 1, 3) := by decide +kernel
theorem dX1_longestCommon_106 : decode cX1_longestCommon 106 = .ok (.goto (-99), 3) := by decide +kernel
theorem dX1_longestCommon_109 : decode cX1_longestCommon 109 = .ok (.aload_n 2, 1) := by decide +kernel
theorem dX1_longestCommon_110 : decode cX1_longestCommon 110 = .ok (.aload_n 1, 1) := by decide +kernel
theorem dX1_longestCommon_111 : decode cX1_longestCommon 111 = .ok (.invokevirtual 51, 3) := by decide +kernel
theorem dX1_longestCommon_114 : decode cX1_longestCommon 114 = .ok (.bipush 8, 2) := by decide +kernel
theorem dX1_longestCommon_116 : decode cX1_longestCommon 116 = .ok (.invokestatic 136, 3) := by decide +kernel
theorem dX1_longestCommon_119 : decode cX1_longestCommon 119 = .ok (.iaload, 1) := by decide +kernel
theorem dX1_longestCommon_120 : decode cX1_longestCommon 120 = .ok (.ireturn, 1) := by decide +kernel
noncomputable def fX1_longestCommon_92 (k7 : (Nat → Int32) → (Nat → Int32) → Int32 → (Nat → Int32) → (Nat → Int32) → Int32 → (Nat → Int32) → Int32 → Option (Int32)) (k21 : (Nat → Int32) → (Nat → Int32) → Int32 → (Nat → Int32) → (Nat → Int32) → Int32 → (Nat → Int32) → Int32 → Int32 → Int32 → Option (Int32)) (t_rows : Nat → Int32) (t_sizes : Nat → Int32) (t_acts : Int32) (p1_rows : Nat → Int32) (p1_sizes : Nat → Int32) (p1_acts : Int32) (n2 : Nat → Int32) (v3 : Int32) (v5 : Int32) (v6 : Int32) (z1 : Int32) (z2 : Int32) : Option (Int32) := chk 9 z1 (k21 t_rows t_sizes t_acts p1_rows p1_sizes p1_acts (upd n2 z1.toNatClampNeg z2) v3 v6 (v5 + 1))
noncomputable def fX1_longestCommon_64 (k7 : (Nat → Int32) → (Nat → Int32) → Int32 → (Nat → Int32) → (Nat → Int32) → Int32 → (Nat → Int32) → Int32 → Option (Int32)) (k21 : (Nat → Int32) → (Nat → Int32) → Int32 → (Nat → Int32) → (Nat → Int32) → Int32 → (Nat → Int32) → Int32 → Int32 → Int32 → Option (Int32)) (t_rows : Nat → Int32) (t_sizes : Nat → Int32) (t_acts : Int32) (p1_rows : Nat → Int32) (p1_sizes : Nat → Int32) (p1_acts : Int32) (n2 : Nat → Int32) (v3 : Int32) (v4 : Int32) (v5 : Int32) (v6 : Int32) (z0 : Int32) : Option (Int32) := (if z0 = 0 then chk 9 (v5 - 1) (fX1_longestCommon_92 k7 k21 t_rows t_sizes t_acts p1_rows p1_sizes p1_acts n2 v3 v5 v6 v5 (imax v6 (n2 (v5 - 1).toNatClampNeg))) else fX1_longestCommon_92 k7 k21 t_rows t_sizes t_acts p1_rows p1_sizes p1_acts n2 v3 v5 v6 v5 (v4 + 1))
noncomputable def fX1_longestCommon_103 (k7 : (Nat → Int32) → (Nat → Int32) → Int32 → (Nat → Int32) → (Nat → Int32) → Int32 → (Nat → Int32) → Int32 → Option (Int32)) (t_rows : Nat → Int32) (t_sizes : Nat → Int32) (t_acts : Int32) (p1_rows : Nat → Int32) (p1_sizes : Nat → Int32) (p1_acts : Int32) (n2 : Nat → Int32) (v3 : Int32) : Option (Int32) := k7 t_rows t_sizes t_acts p1_rows p1_sizes p1_acts n2 (v3 + 1)
noncomputable def fX1_longestCommon_21 (k7 : (Nat → Int32) → (Nat → Int32) → Int32 → (Nat → Int32) → (Nat → Int32) → Int32 → (Nat → Int32) → Int32 → Option (Int32)) : Nat → (Nat → Int32) → (Nat → Int32) → Int32 → (Nat → Int32) → (Nat → Int32) → Int32 → (Nat → Int32) → Int32 → Int32 → Int32 → Option (Int32)
  | 0, _, _, _, _, _, _, _, _, _, _ => none
  | n + 1, t_rows, t_sizes, t_acts, p1_rows, p1_sizes, p1_acts, n2, v3, v4, v5 => (fX1_plies p1_sizes p1_acts).bind fun r4 => (if r4 < v5 then fX1_longestCommon_103 k7 t_rows t_sizes t_acts p1_rows p1_sizes p1_acts n2 v3 else (if 8 < v5 then fX1_longestCommon_103 k7 t_rows t_sizes t_acts p1_rows p1_sizes p1_acts n2 v3 else chk 9 v5 ((fX1_typeAt t_rows t_acts v3).bind fun r9 => (fX1_typeAt p1_rows p1_acts (v5 - 1)).bind fun r11 => (if r9 = r11 then fX1_longestCommon_64 k7 (fX1_longestCommon_21 k7 n) t_rows t_sizes t_acts p1_rows p1_sizes p1_acts n2 v3 v4 v5 (n2 v5.toNatClampNeg) 1 else fX1_longestCommon_64 k7 (fX1_longestCommon_21 k7 n) t_rows t_sizes t_acts p1_rows p1_sizes p1_acts n2 v3 v4 v5 (n2 v5.toNatClampNeg) 0))))
theorem fX1_longestCommon_21_z (k7 : (Nat → Int32) → (Nat → Int32) → Int32 → (Nat → Int32) → (Nat → Int32) → Int32 → (Nat → Int32) → Int32 → Option (Int32)) (t_rows : Nat → Int32) (t_sizes : Nat → Int32) (t_acts : Int32) (p1_rows : Nat → Int32) (p1_sizes : Nat → Int32) (p1_acts : Int32) (n2 : Nat → Int32) (v3 : Int32) (v4 : Int32) (v5 : Int32) : fX1_longestCommon_21 k7 0 t_rows t_sizes t_acts p1_rows p1_sizes p1_acts n2 v3 v4 v5 = none := rfl
theorem fX1_longestCommon_21_s (k7 : (Nat → Int32) → (Nat → Int32) → Int32 → (Nat → Int32) → (Nat → Int32) → Int32 → (Nat → Int32) → Int32 → Option (Int32)) (n : Nat) (t_rows : Nat → Int32) (t_sizes : Nat → Int32) (t_acts : Int32) (p1_rows : Nat → Int32) (p1_sizes : Nat → Int32) (p1_acts : Int32) (n2 : Nat → Int32) (v3 : Int32) (v4 : Int32) (v5 : Int32) : fX1_longestCommon_21 k7 (n + 1) t_rows t_sizes t_acts p1_rows p1_sizes p1_acts n2 v3 v4 v5 = (fX1_plies p1_sizes p1_acts).bind fun r4 => (if r4 < v5 then fX1_longestCommon_103 k7 t_rows t_sizes t_acts p1_rows p1_sizes p1_acts n2 v3 else (if 8 < v5 then fX1_longestCommon_103 k7 t_rows t_sizes t_acts p1_rows p1_sizes p1_acts n2 v3 else chk 9 v5 ((fX1_typeAt t_rows t_acts v3).bind fun r9 => (fX1_typeAt p1_rows p1_acts (v5 - 1)).bind fun r11 => (if r9 = r11 then fX1_longestCommon_64 k7 (fX1_longestCommon_21 k7 n) t_rows t_sizes t_acts p1_rows p1_sizes p1_acts n2 v3 v4 v5 (n2 v5.toNatClampNeg) 1 else fX1_longestCommon_64 k7 (fX1_longestCommon_21 k7 n) t_rows t_sizes t_acts p1_rows p1_sizes p1_acts n2 v3 v4 v5 (n2 v5.toNatClampNeg) 0)))) := rfl
noncomputable def fX1_longestCommon_109  (p1_sizes : Nat → Int32) (p1_acts : Int32) (n2 : Nat → Int32) : Option (Int32) := (fX1_plies p1_sizes p1_acts).bind fun r17 => chk 9 (imin r17 8) (some (n2 (imin r17 8).toNatClampNeg))
noncomputable def fX1_longestCommon_7  : Nat → (Nat → Int32) → (Nat → Int32) → Int32 → (Nat → Int32) → (Nat → Int32) → Int32 → (Nat → Int32) → Int32 → Option (Int32)
  | 0, _, _, _, _, _, _, _, _ => none
  | n + 1, t_rows, t_sizes, t_acts, p1_rows, p1_sizes, p1_acts, n2, v3 => (fX1_plies t_sizes t_acts).bind fun r1 => (if r1 ≤ v3 then fX1_longestCommon_109 p1_sizes p1_acts n2 else fX1_longestCommon_21 (fX1_longestCommon_7 n) FU t_rows t_sizes t_acts p1_rows p1_sizes p1_acts n2 v3 0 1)
theorem fX1_longestCommon_7_z  (t_rows : Nat → Int32) (t_sizes : Nat → Int32) (t_acts : Int32) (p1_rows : Nat → Int32) (p1_sizes : Nat → Int32) (p1_acts : Int32) (n2 : Nat → Int32) (v3 : Int32) : fX1_longestCommon_7  0 t_rows t_sizes t_acts p1_rows p1_sizes p1_acts n2 v3 = none := rfl
theorem fX1_longestCommon_7_s  (n : Nat) (t_rows : Nat → Int32) (t_sizes : Nat → Int32) (t_acts : Int32) (p1_rows : Nat → Int32) (p1_sizes : Nat → Int32) (p1_acts : Int32) (n2 : Nat → Int32) (v3 : Int32) : fX1_longestCommon_7  (n + 1) t_rows t_sizes t_acts p1_rows p1_sizes p1_acts n2 v3 = (fX1_plies t_sizes t_acts).bind fun r1 => (if r1 ≤ v3 then fX1_longestCommon_109 p1_sizes p1_acts n2 else fX1_longestCommon_21 (fX1_longestCommon_7 n) FU t_rows t_sizes t_acts p1_rows p1_sizes p1_acts n2 v3 0 1) := rfl
noncomputable def fX1_longestCommon  (t_rows : Nat → Int32) (t_sizes : Nat → Int32) (t_acts : Int32) (p1_rows : Nat → Int32) (p1_sizes : Nat → Int32) (p1_acts : Int32) : Option (Int32) := fX1_longestCommon_7 FU t_rows t_sizes t_acts p1_rows p1_sizes p1_acts (fun _ => 0) 0
set_option maxHeartbeats 4000000 in
set_option maxRecDepth 100000 in
theorem ctX1_longestCommon (l : Launch) (g : GT) (sz : Nat) (a_t : Nat → Nat) (a_p1 : Nat → Nat) (t_told : Int32) (t_lines : Int32) (t_kinds : Int32) (t_acts : Int32) (t_rows : Nat → Int32) (t_sizes : Nat → Int32) (p1_told : Int32) (p1_lines : Int32) (p1_kinds : Int32) (p1_acts : Int32) (p1_rows : Nat → Int32) (p1_sizes : Nat → Int32) (o : Int32) (h : fX1_longestCommon t_rows t_sizes t_acts p1_rows p1_sizes p1_acts = some (o)) : Met l yX1_longestCommon (Cond.code yX1_longestCommon cX1_longestCommon 8 (some .int) :: Tw) ⟨2, 1, 9, 42⟩ (va_Pc [.ref ((a_t 0)), .ref ((a_p1 0))] (raB g [((a_t 0), .inr (1, [.ref (a_t 1), .ref (a_t 2), .ref (a_t 3), .ref (a_t 4), .ref (a_t 5), .int t_told, .int t_lines, .int t_kinds, .int t_acts])), ((a_t 3), .inl (g.2.2.1 0, 31, .inl t_rows)), ((a_t 4), .inl (g.2.2.1 0, 31, .inl t_sizes)), ((a_p1 0), .inr (1, [.ref (a_p1 1), .ref (a_p1 2), .ref (a_p1 3), .ref (a_p1 4), .ref (a_p1 5), .int p1_told, .int p1_lines, .int p1_kinds, .int p1_acts])), ((a_p1 3), .inl (g.2.2.1 0, 31, .inl p1_rows)), ((a_p1 4), .inl (g.2.2.1 0, 31, .inl p1_sizes))] sz)) (va_Qi (fun x (_ : Unit) => x = o) (fun _ _ => True) (fun q => sz ≤ q)) 1 9 (fun q => sz ≤ q) := by
  refine ra_meti (by decide) (Nat.le_of_ble_eq_true rfl) (lv0 := [(0, .ref ((a_t 0))), (1, .ref ((a_p1 0)))]) rfl ?_
  intro p e s m args below meth c ls Q cx hret hG hb0 hO hl
  have hA : ∀ q, s.heap.size ≤ q → (fun q : Nat => s.heap.size ≤ q) q := fun _ h => h
  have hAb : ∀ q, (fun q : Nat => s.heap.size ≤ q) q → g.1 ≤ q := fun q h => Nat.le_trans hb0 h
  generalize hAe : (fun q : Nat => s.heap.size ≤ q) = A at hret hA hAb
  have hO0 := hO
  have hOk : ∀ {H : Heap} {locs : List Loc}, va_S A s.heap H locs → va_P g.2.1 vwCl [((a_t 0), .inr (1, [.ref (a_t 1), .ref (a_t 2), .ref (a_t 3), .ref (a_t 4), .ref (a_t 5), .int t_told, .int t_lines, .int t_kinds, .int t_acts])), ((a_t 3), .inl (g.2.2.1 0, 31, .inl t_rows)), ((a_t 4), .inl (g.2.2.1 0, 31, .inl t_sizes)), ((a_p1 0), .inr (1, [.ref (a_p1 1), .ref (a_p1 2), .ref (a_p1 3), .ref (a_p1 4), .ref (a_p1 5), .int p1_told, .int p1_lines, .int p1_kinds, .int p1_acts])), ((a_p1 3), .inl (g.2.2.1 0, 31, .inl p1_rows)), ((a_p1 4), .inl (g.2.2.1 0, 31, .inl p1_sizes))] H := fun hS => xw_old hO0 (by rw [hAe]; exact hS)
  have hP : va_P g.2.1 vwCl [] s.heap := fun k q hk => by simp at hk
  have hD : va_D A [] := ⟨fun i j p q hi => by simp at hi, fun k q hk => by simp at hk⟩
  have hx := cx.1
  have hb := cx.2.1
  have hG0 := hG
  have hGk : ∀ {H : Heap} {locs : List Loc}, va_S A s.heap H locs → GE g s H := fun hS => hG0.keptS hAb hS
  have hSb : ∀ {H : Heap} {locs : List Loc}, va_S A s.heap H locs → va_S (fun a => g.1 ≤ a) s.heap H locs := fun hS => ⟨hS.1, fun q h1 h2 => hS.2.1 q h1 (fun z => h2 (hAb q z)), fun l hl => hAb _ (hS.2.2 l hl)⟩
  have hS : va_S A s.heap s.heap [] := va_S.rf
  have w92 : ∀ (k7 : (Nat → Int32) → (Nat → Int32) → Int32 → (Nat → Int32) → (Nat → Int32) → Int32 → (Nat → Int32) → Int32 → Option (Int32)) (hk7 : ∀ (q_n2 : Nat) (n2 : Nat → Int32) (v3 : Int32) (H : Heap) (locs : List Loc), va_P g.2.1 vwCl [(q_n2, .inl (g.2.2.1 0, 9, .inl n2))] H → va_D A [(q_n2, .inl (g.2.2.1 0, 9, .inl n2))] → va_S A s.heap H locs → ∀ (ls : Array Slot), lv_has ls 8 [(0, .ref ((a_t 0))), (1, .ref ((a_p1 0))), (2, .ref q_n2), (3, .int v3)] → k7 t_rows t_sizes t_acts p1_rows p1_sizes p1_acts n2 v3 = some (o) → W p l e ⟨2, 1, 9, 42⟩ s m args below meth c H locs 1 9 Q (F0 m 7 ls [])) (k21 : (Nat → Int32) → (Nat → Int32) → Int32 → (Nat → Int32) → (Nat → Int32) → Int32 → (Nat → Int32) → Int32 → Int32 → Int32 → Option (Int32)) (hk21 : ∀ (q_n2 : Nat) (n2 : Nat → Int32) (v3 : Int32) (v4 : Int32) (v5 : Int32) (H : Heap) (locs : List Loc), va_P g.2.1 vwCl [(q_n2, .inl (g.2.2.1 0, 9, .inl n2))] H → va_D A [(q_n2, .inl (g.2.2.1 0, 9, .inl n2))] → va_S A s.heap H locs → ∀ (ls : Array Slot), lv_has ls 8 [(0, .ref ((a_t 0))), (1, .ref ((a_p1 0))), (2, .ref q_n2), (3, .int v3), (4, .int v4), (5, .int v5)] → k21 t_rows t_sizes t_acts p1_rows p1_sizes p1_acts n2 v3 v4 v5 = some (o) → W p l e ⟨2, 1, 9, 42⟩ s m args below meth c H locs 1 9 Q (F0 m 21 ls [])) (q_n2 : Nat) (n2 : Nat → Int32) (v3 : Int32) (v5 : Int32) (v6 : Int32) (z1 : Int32) (z2 : Int32) (H : Heap) (locs : List Loc), va_P g.2.1 vwCl [(q_n2, .inl (g.2.2.1 0, 9, .inl n2))] H → va_D A [(q_n2, .inl (g.2.2.1 0, 9, .inl n2))] → va_S A s.heap H locs → ∀ (ls : Array Slot), lv_has ls 8 [(0, .ref ((a_t 0))), (1, .ref ((a_p1 0))), (2, .ref q_n2), (3, .int v3), (5, .int v5), (6, .int v6)] → fX1_longestCommon_92 k7 k21 t_rows t_sizes t_acts p1_rows p1_sizes p1_acts n2 v3 v5 v6 z1 z2 = some (o) → W p l e ⟨2, 1, 9, 42⟩ s m args below meth c H locs 1 9 Q (F0 m 92 ls [.int z2, .int z1, .ref q_n2]) := by
    intro k7 hk7 k21 hk21 q_n2 n2 v3 v5 v6 z1 z2 H locs hP hD hS ls hl h
    unfold fX1_longestCommon_92 at h
    have hG := hGk hS
    have hO := hOk hS
    obtain ⟨hi16, h⟩ := chk_out h
    refine xw_iast (ws' := [(q_n2, .inl (g.2.2.1 0, 9, .inl (upd n2 z1.toNatClampNeg z2)))]) (k := z1.toNatClampNeg) cx hG hP hD hS 0 rfl hi16 rfl rfl dX1_longestCommon_92 (fun H locs hP hD hS => ?_)
    have hG := hGk hS
    have hO := hOk hS
    refine lv_iload hx hb dX1_longestCommon_93 (lv_at hl 5 rfl) ?_
    refine lv_istore (lv' := [(4, .int v6), (0, .ref ((a_t 0))), (1, .ref ((a_p1 0))), (2, .ref q_n2), (3, .int v3), (5, .int v5), (6, .int v6)]) hx hb dX1_longestCommon_95 hl (by decide) rfl (fun ls hl => ?_)
    refine lv_iinc (v := v5 + 1) (lv' := [(5, .int (v5 + 1)), (4, .int v6), (0, .ref ((a_t 0))), (1, .ref ((a_p1 0))), (2, .ref q_n2), (3, .int v3), (6, .int v6)]) hx hb dX1_longestCommon_97 hl (k := 5) rfl rfl (by decide) rfl (fun ls hl => ?_)
    refine lv_goto (tgt := 21) hx hb dX1_longestCommon_100 (by decide) ?_
    exact hk21 q_n2 (upd n2 z1.toNatClampNeg z2) v3 v6 (v5 + 1) _ _ hP hD hS _ (lv_sub hl [2, 3, 4, 5, 1, 0] rfl) h
  have w64 : ∀ (k7 : (Nat → Int32) → (Nat → Int32) → Int32 → (Nat → Int32) → (Nat → Int32) → Int32 → (Nat → Int32) → Int32 → Option (Int32)) (hk7 : ∀ (q_n2 : Nat) (n2 : Nat → Int32) (v3 : Int32) (H : Heap) (locs : List Loc), va_P g.2.1 vwCl [(q_n2, .inl (g.2.2.1 0, 9, .inl n2))] H → va_D A [(q_n2, .inl (g.2.2.1 0, 9, .inl n2))] → va_S A s.heap H locs → ∀ (ls : Array Slot), lv_has ls 8 [(0, .ref ((a_t 0))), (1, .ref ((a_p1 0))), (2, .ref q_n2), (3, .int v3)] → k7 t_rows t_sizes t_acts p1_rows p1_sizes p1_acts n2 v3 = some (o) → W p l e ⟨2, 1, 9, 42⟩ s m args below meth c H locs 1 9 Q (F0 m 7 ls [])) (k21 : (Nat → Int32) → (Nat → Int32) → Int32 → (Nat → Int32) → (Nat → Int32) → Int32 → (Nat → Int32) → Int32 → Int32 → Int32 → Option (Int32)) (hk21 : ∀ (q_n2 : Nat) (n2 : Nat → Int32) (v3 : Int32) (v4 : Int32) (v5 : Int32) (H : Heap) (locs : List Loc), va_P g.2.1 vwCl [(q_n2, .inl (g.2.2.1 0, 9, .inl n2))] H → va_D A [(q_n2, .inl (g.2.2.1 0, 9, .inl n2))] → va_S A s.heap H locs → ∀ (ls : Array Slot), lv_has ls 8 [(0, .ref ((a_t 0))), (1, .ref ((a_p1 0))), (2, .ref q_n2), (3, .int v3), (4, .int v4), (5, .int v5)] → k21 t_rows t_sizes t_acts p1_rows p1_sizes p1_acts n2 v3 v4 v5 = some (o) → W p l e ⟨2, 1, 9, 42⟩ s m args below meth c H locs 1 9 Q (F0 m 21 ls [])) (q_n2 : Nat) (n2 : Nat → Int32) (v3 : Int32) (v4 : Int32) (v5 : Int32) (v6 : Int32) (z0 : Int32) (H : Heap) (locs : List Loc), va_P g.2.1 vwCl [(q_n2, .inl (g.2.2.1 0, 9, .inl n2))] H → va_D A [(q_n2, .inl (g.2.2.1 0, 9, .inl n2))] → va_S A s.heap H locs → ∀ (ls : Array Slot), lv_has ls 8 [(0, .ref ((a_t 0))), (1, .ref ((a_p1 0))), (2, .ref q_n2), (3, .int v3), (4, .int v4), (5, .int v5), (6, .int v6)] → fX1_longestCommon_64 k7 k21 t_rows t_sizes t_acts p1_rows p1_sizes p1_acts n2 v3 v4 v5 v6 z0 = some (o) → W p l e ⟨2, 1, 9, 42⟩ s m args below meth c H locs 1 9 Q (F0 m 64 ls [.int z0]) := by
    intro k7 hk7 k21 hk21 q_n2 n2 v3 v4 v5 v6 z0 H locs hP hD hS ls hl h
    unfold fX1_longestCommon_64 at h
    have hG := hGk hS
    have hO := hOk hS
    refine lv_istore (lv' := [(7, .int z0), (0, .ref ((a_t 0))), (1, .ref ((a_p1 0))), (2, .ref q_n2), (3, .int v3), (4, .int v4), (5, .int v5), (6, .int v6)]) hx hb dX1_longestCommon_64 hl (by decide) rfl (fun ls hl => ?_)
    refine lv_aload_n hx hb dX1_longestCommon_66 rfl (lv_at hl 3 rfl) ?_
    refine lv_iload hx hb dX1_longestCommon_67 (lv_at hl 6 rfl) ?_
    refine lv_iload hx hb dX1_longestCommon_69 (lv_at hl 0 rfl) ?_
    refine lv_if_eq (tgt := 81) hx hb dX1_longestCommon_71 (by decide) (fun c14 => ?_) (fun c14 => ?_)
    · have h := itp c14 h
      refine lv_iload hx hb dX1_longestCommon_81 (lv_at hl 7 rfl) ?_
      refine lv_aload_n hx hb dX1_longestCommon_83 rfl (lv_at hl 3 rfl) ?_
      refine lv_iload hx hb dX1_longestCommon_84 (lv_at hl 6 rfl) ?_
      refine lv_iconst (v := 1) hx hb dX1_longestCommon_86 (by decide) ?_
      refine lv_isub hx hb dX1_longestCommon_87 ?_
      obtain ⟨hi15, h⟩ := chk_out h
      refine xa_iald cx hG hP 0 rfl hi15 rfl dX1_longestCommon_88 ?_
      refine xm_imax cx hl.1 lm_X1_133 ⟨ksJ9_max_7cf53, kmJ9_max_7cf53.2.1, kmJ9_max_7cf53.1⟩ (Nat.le_of_ble_eq_true rfl) (Nat.le_of_ble_eq_true rfl) (Nat.le_of_ble_eq_true rfl) (Nat.le_of_ble_eq_true rfl) dX1_longestCommon_89 ?_
      exact w92 _ hk7 _ hk21 q_n2 n2 v3 v5 v6 v5 (imax v6 (n2 (v5 - 1).toNatClampNeg)) _ _ hP hD hS _ (lv_sub hl [1, 2, 3, 4, 6, 7] rfl) h
    · have h := itn c14 h
      refine lv_iload hx hb dX1_longestCommon_74 (lv_at hl 5 rfl) ?_
      refine lv_iconst (v := 1) hx hb dX1_longestCommon_76 (by decide) ?_
      refine lv_iadd hx hb dX1_longestCommon_77 ?_
      refine lv_goto (tgt := 92) hx hb dX1_longestCommon_78 (by decide) ?_
      exact w92 _ hk7 _ hk21 q_n2 n2 v3 v5 v6 v5 (v4 + 1) _ _ hP hD hS _ (lv_sub hl [1, 2, 3, 4, 6, 7] rfl) h
  have w103 : ∀ (k7 : (Nat → Int32) → (Nat → Int32) → Int32 → (Nat → Int32) → (Nat → Int32) → Int32 → (Nat → Int32) → Int32 → Option (Int32)) (hk7 : ∀ (q_n2 : Nat) (n2 : Nat → Int32) (v3 : Int32) (H : Heap) (locs : List Loc), va_P g.2.1 vwCl [(q_n2, .inl (g.2.2.1 0, 9, .inl n2))] H → va_D A [(q_n2, .inl (g.2.2.1 0, 9, .inl n2))] → va_S A s.heap H locs → ∀ (ls : Array Slot), lv_has ls 8 [(0, .ref ((a_t 0))), (1, .ref ((a_p1 0))), (2, .ref q_n2), (3, .int v3)] → k7 t_rows t_sizes t_acts p1_rows p1_sizes p1_acts n2 v3 = some (o) → W p l e ⟨2, 1, 9, 42⟩ s m args below meth c H locs 1 9 Q (F0 m 7 ls [])) (q_n2 : Nat) (n2 : Nat → Int32) (v3 : Int32) (H : Heap) (locs : List Loc), va_P g.2.1 vwCl [(q_n2, .inl (g.2.2.1 0, 9, .inl n2))] H → va_D A [(q_n2, .inl (g.2.2.1 0, 9, .inl n2))] → va_S A s.heap H locs → ∀ (ls : Array Slot), lv_has ls 8 [(0, .ref ((a_t 0))), (1, .ref ((a_p1 0))), (2, .ref q_n2), (3, .int v3)] → fX1_longestCommon_103 k7 t_rows t_sizes t_acts p1_rows p1_sizes p1_acts n2 v3 = some (o) → W p l e ⟨2, 1, 9, 42⟩ s m args below meth c H locs 1 9 Q (F0 m 103 ls []) := by
    intro k7 hk7 q_n2 n2 v3 H locs hP hD hS ls hl h
    unfold fX1_longestCommon_103 at h
    have hG := hGk hS
    have hO := hOk hS
    refine lv_iinc (v := v3 + 1) (lv' := [(3, .int (v3 + 1)), (0, .ref ((a_t 0))), (1, .ref ((a_p1 0))), (2, .ref q_n2)]) hx hb dX1_longestCommon_103 hl (k := 3) rfl rfl (by decide) rfl (fun ls hl => ?_)
    refine lv_goto (tgt := 7) hx hb dX1_longestCommon_106 (by decide) ?_
    exact hk7 q_n2 n2 (v3 + 1) _ _ hP hD hS _ (lv_sub hl [1, 2, 3, 0] rfl) h
  have w21 : ∀ (k7 : (Nat → Int32) → (Nat → Int32) → Int32 → (Nat → Int32) → (Nat → Int32) → Int32 → (Nat → Int32) → Int32 → Option (Int32)) (hk7 : ∀ (q_n2 : Nat) (n2 : Nat → Int32) (v3 : Int32) (H : Heap) (locs : List Loc), va_P g.2.1 vwCl [(q_n2, .inl (g.2.2.1 0, 9, .inl n2))] H → va_D A [(q_n2, .inl (g.2.2.1 0, 9, .inl n2))] → va_S A s.heap H locs → ∀ (ls : Array Slot), lv_has ls 8 [(0, .ref ((a_t 0))), (1, .ref ((a_p1 0))), (2, .ref q_n2), (3, .int v3)] → k7 t_rows t_sizes t_acts p1_rows p1_sizes p1_acts n2 v3 = some (o) → W p l e ⟨2, 1, 9, 42⟩ s m args below meth c H locs 1 9 Q (F0 m 7 ls [])) (n : Nat) (q_n2 : Nat) (n2 : Nat → Int32) (v3 : Int32) (v4 : Int32) (v5 : Int32) (H : Heap) (locs : List Loc), va_P g.2.1 vwCl [(q_n2, .inl (g.2.2.1 0, 9, .inl n2))] H → va_D A [(q_n2, .inl (g.2.2.1 0, 9, .inl n2))] → va_S A s.heap H locs → ∀ (ls : Array Slot), lv_has ls 8 [(0, .ref ((a_t 0))), (1, .ref ((a_p1 0))), (2, .ref q_n2), (3, .int v3), (4, .int v4), (5, .int v5)] → fX1_longestCommon_21 k7 n t_rows t_sizes t_acts p1_rows p1_sizes p1_acts n2 v3 v4 v5 = some (o) → W p l e ⟨2, 1, 9, 42⟩ s m args below meth c H locs 1 9 Q (F0 m 21 ls []) := by
    intro k7 hk7 n
    induction n with
    | zero => intro q_n2 n2 v3 v4 v5 H locs hP hD hS ls hl h; cases (fX1_longestCommon_21_z k7 t_rows t_sizes t_acts p1_rows p1_sizes p1_acts n2 v3 v4 v5).symm.trans h
    | succ n ih =>
    intro q_n2 n2 v3 v4 v5 H locs hP hD hS ls hl h
    have h := (fX1_longestCommon_21_s k7 n t_rows t_sizes t_acts p1_rows p1_sizes p1_acts n2 v3 v4 v5).symm.trans h
    have hG := hGk hS
    have hO := hOk hS
    refine lv_iload hx hb dX1_longestCommon_21 (lv_at hl 5 rfl) ?_
    refine lv_aload_n hx hb dX1_longestCommon_23 rfl (lv_at hl 1 rfl) ?_
    obtain ⟨r4, hr5, h⟩ := bnd h
    refine ro_i (runV (As := []) (rest := [.int v5]) cx hl.1 (ctX1_plies l g a_p1 p1_told p1_lines p1_kinds p1_acts p1_sizes r4 hr5) kmX1_plies kvX1_plies lm_X1_51 ⟨rfl, rfl⟩ ⟨Nat.le_of_ble_eq_true rfl, Nat.le_of_ble_eq_true rfl⟩ (roV (q0 := 3) (ci := 1) hG (hO.sub [3, 5] rfl) hO rfl rfl) rfl rfl (Nat.le_of_ble_eq_true rfl) dX1_longestCommon_24 ⟨Nat.le_of_ble_eq_true rfl, Nat.le_of_ble_eq_true rfl⟩) ?_
    refine lv_icmp_gt (tgt := 103) hx hb dX1_longestCommon_27 (by decide) (fun c6 => ?_) (fun c6 => ?_)
    · have h := itp c6 h
      exact w103 _ hk7 q_n2 n2 v3 _ _ hP hD hS _ (lv_sub hl [0, 1, 2, 3] rfl) h
    · have h := itn c6 h
      refine lv_iload hx hb dX1_longestCommon_30 (lv_at hl 5 rfl) ?_
      refine lv_bipush (v := 8) hx hb dX1_longestCommon_32 (by decide) ?_
      refine lv_icmp_gt (tgt := 103) hx hb dX1_longestCommon_34 (by decide) (fun c7 => ?_) (fun c7 => ?_)
      · have h := itp c7 h
        exact w103 _ hk7 q_n2 n2 v3 _ _ hP hD hS _ (lv_sub hl [0, 1, 2, 3] rfl) h
      · have h := itn c7 h
        refine lv_aload_n hx hb dX1_longestCommon_37 rfl (lv_at hl 2 rfl) ?_
        refine lv_iload hx hb dX1_longestCommon_38 (lv_at hl 5 rfl) ?_
        obtain ⟨hi8, h⟩ := chk_out h
        refine xa_iald cx hG hP 0 rfl hi8 rfl dX1_longestCommon_40 ?_
        refine lv_istore (lv' := [(6, .int (n2 v5.toNatClampNeg)), (0, .ref ((a_t 0))), (1, .ref ((a_p1 0))), (2, .ref q_n2), (3, .int v3), (4, .int v4), (5, .int v5)]) hx hb dX1_longestCommon_41 hl (by decide) rfl (fun ls hl => ?_)
        refine lv_aload_n hx hb dX1_longestCommon_43 rfl (lv_at hl 1 rfl) ?_
        refine lv_iload_n hx hb dX1_longestCommon_44 rfl (lv_at hl 4 rfl) ?_
        obtain ⟨r9, hr10, h⟩ := bnd h
        refine ro_i (runV (As := [.int v3]) (rest := []) cx hl.1 (ctX1_typeAt l g a_t t_told t_lines t_kinds t_acts t_rows v3 r9 hr10) kmX1_typeAt kvX1_typeAt lm_X1_131 ⟨rfl, rfl⟩ ⟨Nat.le_of_ble_eq_true rfl, Nat.le_of_ble_eq_true rfl⟩ (roV (q0 := 0) (ci := 1) hG (hO.sub [0, 1] rfl) hO rfl rfl) rfl rfl (Nat.le_of_ble_eq_true rfl) dX1_longestCommon_45 ⟨Nat.le_of_ble_eq_true rfl, Nat.le_of_ble_eq_true rfl⟩) ?_
        refine lv_aload_n hx hb dX1_longestCommon_48 rfl (lv_at hl 2 rfl) ?_
        refine lv_iload hx hb dX1_longestCommon_49 (lv_at hl 6 rfl) ?_
        refine lv_iconst (v := 1) hx hb dX1_longestCommon_51 (by decide) ?_
        refine lv_isub hx hb dX1_longestCommon_52 ?_
        obtain ⟨r11, hr12, h⟩ := bnd h
        refine ro_i (runV (As := [.int (v5 - 1)]) (rest := [.int r9]) cx hl.1 (ctX1_typeAt l g a_p1 p1_told p1_lines p1_kinds p1_acts p1_rows (v5 - 1) r11 hr12) kmX1_typeAt kvX1_typeAt lm_X1_131 ⟨rfl, rfl⟩ ⟨Nat.le_of_ble_eq_true rfl, Nat.le_of_ble_eq_true rfl⟩ (roV (q0 := 3) (ci := 1) hG (hO.sub [3, 4] rfl) hO rfl rfl) rfl rfl (Nat.le_of_ble_eq_true rfl) dX1_longestCommon_53 ⟨Nat.le_of_ble_eq_true rfl, Nat.le_of_ble_eq_true rfl⟩) ?_
        refine lv_icmp_ne (tgt := 63) hx hb dX1_longestCommon_56 (by decide) (fun c13 => ?_) (fun c13 => ?_)
        · have h := itn c13 h
          refine lv_iconst (v := 0) hx hb dX1_longestCommon_63 (by decide) ?_
          exact w64 _ hk7 _ ih q_n2 n2 v3 v4 v5 (n2 v5.toNatClampNeg) 0 _ _ hP hD hS _ (lv_sub hl [1, 2, 3, 4, 5, 6, 0] rfl) h
        · have h := itp c13 h
          refine lv_iconst (v := 1) hx hb dX1_longestCommon_59 (by decide) ?_
          refine lv_goto (tgt := 64) hx hb dX1_longestCommon_60 (by decide) ?_
          exact w64 _ hk7 _ ih q_n2 n2 v3 v4 v5 (n2 v5.toNatClampNeg) 1 _ _ hP hD hS _ (lv_sub hl [1, 2, 3, 4, 5, 6, 0] rfl) h
  have w109 : ∀ (q_n2 : Nat) (n2 : Nat → Int32) (H : Heap) (locs : List Loc), va_P g.2.1 vwCl [(q_n2, .inl (g.2.2.1 0, 9, .inl n2))] H → va_D A [(q_n2, .inl (g.2.2.1 0, 9, .inl n2))] → va_S A s.heap H locs → ∀ (ls : Array Slot), lv_has ls 8 [(1, .ref ((a_p1 0))), (2, .ref q_n2)] → fX1_longestCommon_109  p1_sizes p1_acts n2 = some (o) → W p l e ⟨2, 1, 9, 42⟩ s m args below meth c H locs 1 9 Q (F0 m 109 ls []) := by
    intro q_n2 n2 H locs hP hD hS ls hl h
    unfold fX1_longestCommon_109 at h
    have hG := hGk hS
    have hO := hOk hS
    refine lv_aload_n hx hb dX1_longestCommon_109 rfl (lv_at hl 1 rfl) ?_
    refine lv_aload_n hx hb dX1_longestCommon_110 rfl (lv_at hl 0 rfl) ?_
    obtain ⟨r17, hr18, h⟩ := bnd h
    refine ro_i (runV (As := []) (rest := [.ref q_n2]) cx hl.1 (ctX1_plies l g a_p1 p1_told p1_lines p1_kinds p1_acts p1_sizes r17 hr18) kmX1_plies kvX1_plies lm_X1_51 ⟨rfl, rfl⟩ ⟨Nat.le_of_ble_eq_true rfl, Nat.le_of_ble_eq_true rfl⟩ (roV (q0 := 3) (ci := 1) hG (hO.sub [3, 5] rfl) hO rfl rfl) rfl rfl (Nat.le_of_ble_eq_true rfl) dX1_longestCommon_111 ⟨Nat.le_of_ble_eq_true rfl, Nat.le_of_ble_eq_true rfl⟩) ?_
    refine lv_bipush (v := 8) hx hb dX1_longestCommon_114 (by decide) ?_
    refine xm_imin cx hl.1 lm_X1_136 ⟨ksJ9_min_7cf53, kmJ9_min_7cf53.2.1, kmJ9_min_7cf53.1⟩ (Nat.le_of_ble_eq_true rfl) (Nat.le_of_ble_eq_true rfl) (Nat.le_of_ble_eq_true rfl) (Nat.le_of_ble_eq_true rfl) dX1_longestCommon_116 ?_
    obtain ⟨hi19, h⟩ := chk_out h
    refine xa_iald cx hG hP 0 rfl hi19 rfl dX1_longestCommon_119 ?_
    cases h
    exact hret _ _ _ _ _ dX1_longestCommon_120 rfl hS
  have w7 : ∀ (n : Nat) (q_n2 : Nat) (n2 : Nat → Int32) (v3 : Int32) (H : Heap) (locs : List Loc), va_P g.2.1 vwCl [(q_n2, .inl (g.2.2.1 0, 9, .inl n2))] H → va_D A [(q_n2, .inl (g.2.2.1 0, 9, .inl n2))] → va_S A s.heap H locs → ∀ (ls : Array Slot), lv_has ls 8 [(0, .ref ((a_t 0))), (1, .ref ((a_p1 0))), (2, .ref q_n2), (3, .int v3)] → fX1_longestCommon_7  n t_rows t_sizes t_acts p1_rows p1_sizes p1_acts n2 v3 = some (o) → W p l e ⟨2, 1, 9, 42⟩ s m args below meth c H locs 1 9 Q (F0 m 7 ls []) := by
    intro n
    induction n with
    | zero => intro q_n2 n2 v3 H locs hP hD hS ls hl h; cases (fX1_longestCommon_7_z  t_rows t_sizes t_acts p1_rows p1_sizes p1_acts n2 v3).symm.trans h
    | succ n ih =>
    intro q_n2 n2 v3 H locs hP hD hS ls hl h
    have h := (fX1_longestCommon_7_s  n t_rows t_sizes t_acts p1_rows p1_sizes p1_acts n2 v3).symm.trans h
    have hG := hGk hS
    have hO := hOk hS
    refine lv_iload_n hx hb dX1_longestCommon_7 rfl (lv_at hl 3 rfl) ?_
    refine lv_aload_n hx hb dX1_longestCommon_8 rfl (lv_at hl 0 rfl) ?_
    obtain ⟨r1, hr2, h⟩ := bnd h
    refine ro_i (runV (As := []) (rest := [.int v3]) cx hl.1 (ctX1_plies l g a_t t_told t_lines t_kinds t_acts t_sizes r1 hr2) kmX1_plies kvX1_plies lm_X1_51 ⟨rfl, rfl⟩ ⟨Nat.le_of_ble_eq_true rfl, Nat.le_of_ble_eq_true rfl⟩ (roV (q0 := 0) (ci := 1) hG (hO.sub [0, 2] rfl) hO rfl rfl) rfl rfl (Nat.le_of_ble_eq_true rfl) dX1_longestCommon_9 ⟨Nat.le_of_ble_eq_true rfl, Nat.le_of_ble_eq_true rfl⟩) ?_
    refine lv_icmp_ge (tgt := 109) hx hb dX1_longestCommon_12 (by decide) (fun c3 => ?_) (fun c3 => ?_)
    · have h := itp c3 h
      exact w109 q_n2 n2 _ _ hP hD hS _ (lv_sub hl [1, 2] rfl) h
    · have h := itn c3 h
      refine lv_iconst (v := 0) hx hb dX1_longestCommon_15 (by decide) ?_
      refine lv_istore (lv' := [(4, .int (0)), (0, .ref ((a_t 0))), (1, .ref ((a_p1 0))), (2, .ref q_n2), (3, .int v3)]) hx hb dX1_longestCommon_16 hl (by decide) rfl (fun ls hl => ?_)
      refine lv_iconst (v := 1) hx hb dX1_longestCommon_18 (by decide) ?_
      refine lv_istore (lv' := [(5, .int (1)), (4, .int (0)), (0, .ref ((a_t 0))), (1, .ref ((a_p1 0))), (2, .ref q_n2), (3, .int v3)]) hx hb dX1_longestCommon_19 hl (by decide) rfl (fun ls hl => ?_)
      exact w21 _ ih FU q_n2 n2 v3 0 1 _ _ hP hD hS _ (lv_sub hl [2, 3, 4, 5, 1, 0] rfl) h
  unfold fX1_longestCommon at h
  refine lv_bipush (v := 9) hx hb dX1_longestCommon_0 (by decide) ?_
  refine xw_newi (N' := 9) cx hG hP hD hS hA arI (by decide) (by decide) (Nat.le_of_ble_eq_true rfl) (Nat.le_of_ble_eq_true rfl) (Nat.le_of_ble_eq_true rfl) dX1_longestCommon_2 (fun q_n2 H hP hD hS => ?_)
  have hP : va_P g.2.1 vwCl [(q_n2, .inl (g.2.2.1 0, 9, .inl (fun _ => 0)))] H := hP
  have hD : va_D A [(q_n2, .inl (g.2.2.1 0, 9, .inl (fun _ => 0)))] := hD
  have hG := hGk hS
  have hO := hOk hS
  refine lv_astore_n (lv' := [(2, .ref q_n2), (0, .ref ((a_t 0))), (1, .ref ((a_p1 0)))]) hx hb dX1_longestCommon_4 rfl hl (by decide) rfl (fun ls hl => ?_)
  refine lv_iconst (v := 0) hx hb dX1_longestCommon_5 (by decide) ?_
  refine lv_istore_n (lv' := [(3, .int (0)), (2, .ref q_n2), (0, .ref ((a_t 0))), (1, .ref ((a_p1 0)))]) hx hb dX1_longestCommon_6 rfl hl (by decide) rfl (fun ls hl => ?_)
  exact w7 FU q_n2 (fun _ => 0) 0 _ _ hP hD hS _ (lv_sub hl [2, 3, 1, 0] rfl) h
-- X1_isPartOf
theorem dX1_isPartOf_0 : decode cX1_isPartOf 0 = .ok (.aload_n 0, 1) := by decide +kernel
theorem dX1_isPartOf_1 : decode cX1_isPartOf 1 = .ok (.aload_n 1, 1) := by decide +kernel
theorem dX1_isPartOf_2 : decode cX1_isPartOf 2 = .ok (.invokevirtual 127, 3) := by decide +kernel
theorem dX1_isPartOf_5 : decode cX1_isPartOf 5 = .ok (.aload_n 0, 1) := by decide +kernel
theorem dX1_isPartOf_6 : decode cX1_isPartOf 6 = .ok (.invokevirtual 51, 3) := by decide +kernel
theorem dX1_isPartOf_9 : decode cX1_isPartOf 9 = .ok (.if_icmp .ne 7, 3) := by decide +kernel
theorem dX1_isPartOf_12 : decode cX1_isPartOf 12 = .ok (.iconst 1, 1) := by decide +kernel
theorem dX1_isPartOf_13 : decode cX1_isPartOf 13 = .ok (.goto 4, 3) := by decide +kernel
theorem dX1_isPartOf_16 : decode cX1_isPartOf 16 = .ok (.iconst 0, 1) := by decide +kernel
theorem dX1_isPartOf_17 : decode cX1_isPartOf 17 = .ok (.ireturn, 1) := by decide +kernel
noncomputable def fX1_isPartOf  (t_rows : Nat → Int32) (t_sizes : Nat → Int32) (t_acts : Int32) (p1_rows : Nat → Int32) (p1_sizes : Nat → Int32) (p1_acts : Int32) : Option (Int32) := (fX1_longestCommon t_rows t_sizes t_acts p1_rows p1_sizes p1_acts).bind fun r1 => (fX1_plies t_sizes t_acts).bind fun r3 => (if r1 = r3 then some (1) else some (0))
set_option maxHeartbeats 4000000 in
set_option maxRecDepth 100000 in
theorem ctX1_isPartOf (l : Launch) (g : GT) (sz : Nat) (a_t : Nat → Nat) (a_p1 : Nat → Nat) (t_told : Int32) (t_lines : Int32) (t_kinds : Int32) (t_acts : Int32) (t_rows : Nat → Int32) (t_sizes : Nat → Int32) (p1_told : Int32) (p1_lines : Int32) (p1_kinds : Int32) (p1_acts : Int32) (p1_rows : Nat → Int32) (p1_sizes : Nat → Int32) (o : Int32) (h : fX1_isPartOf t_rows t_sizes t_acts p1_rows p1_sizes p1_acts = some (o)) : Met l yX1_isPartOf (Cond.code yX1_isPartOf cX1_isPartOf 2 (some .boolean) :: Tw) ⟨3, 1, 9, 69⟩ (va_Pc [.ref ((a_t 0)), .ref ((a_p1 0))] (raB g [((a_t 0), .inr (1, [.ref (a_t 1), .ref (a_t 2), .ref (a_t 3), .ref (a_t 4), .ref (a_t 5), .int t_told, .int t_lines, .int t_kinds, .int t_acts])), ((a_t 3), .inl (g.2.2.1 0, 31, .inl t_rows)), ((a_t 4), .inl (g.2.2.1 0, 31, .inl t_sizes)), ((a_p1 0), .inr (1, [.ref (a_p1 1), .ref (a_p1 2), .ref (a_p1 3), .ref (a_p1 4), .ref (a_p1 5), .int p1_told, .int p1_lines, .int p1_kinds, .int p1_acts])), ((a_p1 3), .inl (g.2.2.1 0, 31, .inl p1_rows)), ((a_p1 4), .inl (g.2.2.1 0, 31, .inl p1_sizes))] sz)) (va_Qi (fun x (_ : Unit) => x = o ∧ (x = 0 ∨ x = 1)) (fun _ _ => True) (fun q => sz ≤ q)) 1 9 (fun q => sz ≤ q) := by
  refine ra_metz (by decide) (Nat.le_of_ble_eq_true rfl) (lv0 := [(0, .ref ((a_t 0))), (1, .ref ((a_p1 0)))]) rfl ?_
  intro p e s m args below meth c ls Q cx hret hG hb0 hO hl
  have hA : ∀ q, s.heap.size ≤ q → (fun q : Nat => s.heap.size ≤ q) q := fun _ h => h
  have hAb : ∀ q, (fun q : Nat => s.heap.size ≤ q) q → g.1 ≤ q := fun q h => Nat.le_trans hb0 h
  generalize hAe : (fun q : Nat => s.heap.size ≤ q) = A at hret hA hAb
  have hO0 := hO
  have hOk : ∀ {H : Heap} {locs : List Loc}, va_S A s.heap H locs → va_P g.2.1 vwCl [((a_t 0), .inr (1, [.ref (a_t 1), .ref (a_t 2), .ref (a_t 3), .ref (a_t 4), .ref (a_t 5), .int t_told, .int t_lines, .int t_kinds, .int t_acts])), ((a_t 3), .inl (g.2.2.1 0, 31, .inl t_rows)), ((a_t 4), .inl (g.2.2.1 0, 31, .inl t_sizes)), ((a_p1 0), .inr (1, [.ref (a_p1 1), .ref (a_p1 2), .ref (a_p1 3), .ref (a_p1 4), .ref (a_p1 5), .int p1_told, .int p1_lines, .int p1_kinds, .int p1_acts])), ((a_p1 3), .inl (g.2.2.1 0, 31, .inl p1_rows)), ((a_p1 4), .inl (g.2.2.1 0, 31, .inl p1_sizes))] H := fun hS => xw_old hO0 (by rw [hAe]; exact hS)
  have hP : va_P g.2.1 vwCl [] s.heap := fun k q hk => by simp at hk
  have hD : va_D A [] := ⟨fun i j p q hi => by simp at hi, fun k q hk => by simp at hk⟩
  have hx := cx.1
  have hb := cx.2.1
  have hG0 := hG
  have hGk : ∀ {H : Heap} {locs : List Loc}, va_S A s.heap H locs → GE g s H := fun hS => hG0.keptS hAb hS
  have hSb : ∀ {H : Heap} {locs : List Loc}, va_S A s.heap H locs → va_S (fun a => g.1 ≤ a) s.heap H locs := fun hS => ⟨hS.1, fun q h1 h2 => hS.2.1 q h1 (fun z => h2 (hAb q z)), fun l hl => hAb _ (hS.2.2 l hl)⟩
  have hS : va_S A s.heap s.heap [] := va_S.rf
  unfold fX1_isPartOf at h
  refine lv_aload_n hx hb dX1_isPartOf_0 rfl (lv_at hl 0 rfl) ?_
  refine lv_aload_n hx hb dX1_isPartOf_1 rfl (lv_at hl 1 rfl) ?_
  obtain ⟨r1, hr2, h⟩ := bnd h
  refine ra_i (runV (As := [.ref ((a_p1 0))]) (rest := []) cx hl.1 (ctX1_longestCommon l g s.heap.size a_t a_p1 t_told t_lines t_kinds t_acts t_rows t_sizes p1_told p1_lines p1_kinds p1_acts p1_rows p1_sizes r1 hr2) kmX1_longestCommon kvX1_longestCommon lm_X1_127 ⟨rfl, rfl⟩ ⟨Nat.le_of_ble_eq_true rfl, Nat.le_of_ble_eq_true rfl⟩ (raV (q0 := 0) (ci := 1) hG (hO.sub [0, 1, 2, 3, 4, 5] rfl) hb0 hS hO rfl rfl) rfl rfl (Nat.le_of_ble_eq_true rfl) dX1_isPartOf_2 ⟨Nat.le_of_ble_eq_true rfl, Nat.le_of_ble_eq_true rfl⟩) hS hA (fun H locs _ hS => ?_)
  have hG := hGk hS
  have hO := hOk hS
  refine lv_aload_n hx hb dX1_isPartOf_5 rfl (lv_at hl 0 rfl) ?_
  obtain ⟨r3, hr4, h⟩ := bnd h
  refine ro_i (runV (As := []) (rest := [.int r1]) cx hl.1 (ctX1_plies l g a_t t_told t_lines t_kinds t_acts t_sizes r3 hr4) kmX1_plies kvX1_plies lm_X1_51 ⟨rfl, rfl⟩ ⟨Nat.le_of_ble_eq_true rfl, Nat.le_of_ble_eq_true rfl⟩ (roV (q0 := 0) (ci := 1) hG (hO.sub [0, 2] rfl) hO rfl rfl) rfl rfl (Nat.le_of_ble_eq_true rfl) dX1_isPartOf_6 ⟨Nat.le_of_ble_eq_true rfl, Nat.le_of_ble_eq_true rfl⟩) ?_
  refine lv_icmp_ne (tgt := 16) hx hb dX1_isPartOf_9 (by decide) (fun c5 => ?_) (fun c5 => ?_)
  · have h := itn c5 h
    refine lv_iconst (v := 0) hx hb dX1_isPartOf_16 (by decide) ?_
    cases h
    exact hret _ _ _ _ _ dX1_isPartOf_17 (by decide) rfl hS
  · have h := itp c5 h
    refine lv_iconst (v := 1) hx hb dX1_isPartOf_12 (by decide) ?_
    refine lv_goto (tgt := 17) hx hb dX1_isPartOf_13 (by decide) ?_
    cases h
    exact hret _ _ _ _ _ dX1_isPartOf_17 (by decide) rfl hS
-- X7_partOf
theorem dX7_partOf_0 : decode cX7_partOf 0 = .ok (.aload_n 0, 1) := by decide +kernel
theorem dX7_partOf_1 : decode cX7_partOf 1 = .ok (.iload_n 1, 1) := by decide +kernel
theorem dX7_partOf_2 : decode cX7_partOf 2 = .ok (.iload_n 2, 1) := by decide +kernel
theorem dX7_partOf_3 : decode cX7_partOf 3 = .ok (.invokevirtual 360, 3) := by decide +kernel
theorem dX7_partOf_6 : decode cX7_partOf 6 = .ok (.istore_n 3, 1) := by decide +kernel
theorem dX7_partOf_7 : decode cX7_partOf 7 = .ok (.iload_n 3, 1) := by decide +kernel
theorem dX7_partOf_8 : decode cX7_partOf 8 = .ok (.ifCond .eq 7, 3) := by decide +kernel
theorem dX7_partOf_11 : decode cX7_partOf 11 = .ok (.iload_n 3, 1) := by decide +kernel
theorem dX7_partOf_12 : decode cX7_partOf 12 = .ok (.goto 26, 3) := by decide +kernel
theorem dX7_partOf_15 : decode cX7_partOf 15 = .ok (.aload_n 0, 1) := by decide +kernel
theorem dX7_partOf_16 : decode cX7_partOf 16 = .ok (.getfield 34, 3) := by decide +kernel
theorem dX7_partOf_19 : decode cX7_partOf 19 = .ok (.iload_n 1, 1) := by decide +kernel
theorem dX7_partOf_20 : decode cX7_partOf 20 = .ok (.aaload, 1) := by decide +kernel
theorem dX7_partOf_21 : decode cX7_partOf 21 = .ok (.aload_n 0, 1) := by decide +kernel
theorem dX7_partOf_22 : decode cX7_partOf 22 = .ok (.getfield 34, 3) := by decide +kernel
theorem dX7_partOf_25 : decode cX7_partOf 25 = .ok (.iload_n 2, 1) := by decide +kernel
theorem dX7_partOf_26 : decode cX7_partOf 26 = .ok (.aaload, 1) := by decide +kernel
theorem dX7_partOf_27 : decode cX7_partOf 27 = .ok (.invokevirtual 367, 3) := by decide +kernel
theorem dX7_partOf_30 : decode cX7_partOf 30 = .ok (.ifCond .eq 7, 3) := by decide +kernel
theorem dX7_partOf_33 : decode cX7_partOf 33 = .ok (.iconst 1, 1) := by decide +kernel
theorem dX7_partOf_34 : decode cX7_partOf 34 = .ok (.goto 4, 3) := by decide +kernel
theorem dX7_partOf_37 : decode cX7_partOf 37 = .ok (.iconst 0, 1) := by decide +kernel
theorem dX7_partOf_38 : decode cX7_partOf 38 = .ok (.ireturn, 1) := by decide +kernel
noncomputable def fX7_partOf  (t_images_0_rows : Nat → Int32) (t_images_0_sizes : Nat → Int32) (t_images_0_told : Int32) (t_images_0_acts : Int32) (t_images_1_rows : Nat → Int32) (t_images_1_sizes : Nat → Int32) (t_images_1_told : Int32) (t_images_1_acts : Int32) (t_images_2_rows : Nat → Int32) (t_images_2_sizes : Nat → Int32) (t_images_2_told : Int32) (t_images_2_acts : Int32) (v1 : Int32) (v2 : Int32) : Option (Int32) := (fX7_imagesBar t_images_0_told t_images_1_told t_images_2_told v1 v2).bind fun r1 => (if r1 = 0 then (if v1 = 0 then (if v2 = 0 then (fX1_isPartOf t_images_0_rows t_images_0_sizes t_images_0_acts t_images_0_rows t_images_0_sizes t_images_0_acts).bind fun r6 => (if r6 = 0 then some (0) else some (1)) else (if v2 = 1 then (fX1_isPartOf t_images_0_rows t_images_0_sizes t_images_0_acts t_images_1_rows t_images_1_sizes t_images_1_acts).bind fun r11 => (if r11 = 0 then some (0) else some (1)) else (if v2 = 2 then (fX1_isPartOf t_images_0_rows t_images_0_sizes t_images_0_acts t_images_2_rows t_images_2_sizes t_images_2_acts).bind fun r16 => (if r16 = 0 then some (0) else some (1)) else none))) else (if v1 = 1 then (if v2 = 0 then (fX1_isPartOf t_images_1_rows t_images_1_sizes t_images_1_acts t_images_0_rows t_images_0_sizes t_images_0_acts).bind fun r22 => (if r22 = 0 then some (0) else some (1)) else (if v2 = 1 then (fX1_isPartOf t_images_1_rows t_images_1_sizes t_images_1_acts t_images_1_rows t_images_1_sizes t_images_1_acts).bind fun r27 => (if r27 = 0 then some (0) else some (1)) else (if v2 = 2 then (fX1_isPartOf t_images_1_rows t_images_1_sizes t_images_1_acts t_images_2_rows t_images_2_sizes t_images_2_acts).bind fun r32 => (if r32 = 0 then some (0) else some (1)) else none))) else (if v1 = 2 then (if v2 = 0 then (fX1_isPartOf t_images_2_rows t_images_2_sizes t_images_2_acts t_images_0_rows t_images_0_sizes t_images_0_acts).bind fun r38 => (if r38 = 0 then some (0) else some (1)) else (if v2 = 1 then (fX1_isPartOf t_images_2_rows t_images_2_sizes t_images_2_acts t_images_1_rows t_images_1_sizes t_images_1_acts).bind fun r43 => (if r43 = 0 then some (0) else some (1)) else (if v2 = 2 then (fX1_isPartOf t_images_2_rows t_images_2_sizes t_images_2_acts t_images_2_rows t_images_2_sizes t_images_2_acts).bind fun r48 => (if r48 = 0 then some (0) else some (1)) else none))) else none))) else some r1)
set_option maxHeartbeats 4000000 in
set_option maxRecDepth 100000 in
theorem ctX7_partOf (l : Launch) (g : GT) (sz : Nat) (a_t : Nat → Nat) (a_t_tape : Nat → Nat) (a_t_reader : Nat → Nat) (a_t_now : Nat → Nat) (a_t_choices : Nat → Nat) (a_t_ways : Nat → Nat) (a_t_stress : Nat → Nat) (a_t_images_0 : Nat → Nat) (a_t_images_1 : Nat → Nat) (a_t_images_2 : Nat → Nat) (t_images_0_told : Int32) (t_images_0_lines : Int32) (t_images_0_kinds : Int32) (t_images_0_acts : Int32) (t_images_0_rows : Nat → Int32) (t_images_0_sizes : Nat → Int32) (t_images_1_told : Int32) (t_images_1_lines : Int32) (t_images_1_kinds : Int32) (t_images_1_acts : Int32) (t_images_1_rows : Nat → Int32) (t_images_1_sizes : Nat → Int32) (t_images_2_told : Int32) (t_images_2_lines : Int32) (t_images_2_kinds : Int32) (t_images_2_acts : Int32) (t_images_2_rows : Nat → Int32) (t_images_2_sizes : Nat → Int32) (v1 : Int32) (v2 : Int32) (o : Int32) (h : fX7_partOf t_images_0_rows t_images_0_sizes t_images_0_told t_images_0_acts t_images_1_rows t_images_1_sizes t_images_1_told t_images_1_acts t_images_2_rows t_images_2_sizes t_images_2_told t_images_2_acts v1 v2 = some (o)) : Met l yX7_partOf (Cond.code yX7_partOf cX7_partOf 4 (some .int) :: Tw) ⟨4, 1, 9, 90⟩ (va_Pc [.ref ((a_t 0)), .int v1, .int v2] (raB g [((a_t 0), .inr (6, [.ref (a_t_tape 0), .ref (a_t_reader 0), .ref (a_t_now 0), .ref (a_t 4), .ref (a_t_choices 0), .ref (a_t_ways 0), .ref (a_t_stress 0)])), ((a_t 4), .inl (g.2.2.1 4, 3, .inr (.inr (.inr (.inr (iF (a_t_images_0 0) (a_t_images_1 0) (a_t_images_2 0))))))), ((a_t_images_0 0), .inr (1, [.ref (a_t_images_0 1), .ref (a_t_images_0 2), .ref (a_t_images_0 3), .ref (a_t_images_0 4), .ref (a_t_images_0 5), .int t_images_0_told, .int t_images_0_lines, .int t_images_0_kinds, .int t_images_0_acts])), ((a_t_images_0 3), .inl (g.2.2.1 0, 31, .inl t_images_0_rows)), ((a_t_images_0 4), .inl (g.2.2.1 0, 31, .inl t_images_0_sizes)), ((a_t_images_1 0), .inr (1, [.ref (a_t_images_1 1), .ref (a_t_images_1 2), .ref (a_t_images_1 3), .ref (a_t_images_1 4), .ref (a_t_images_1 5), .int t_images_1_told, .int t_images_1_lines, .int t_images_1_kinds, .int t_images_1_acts])), ((a_t_images_1 3), .inl (g.2.2.1 0, 31, .inl t_images_1_rows)), ((a_t_images_1 4), .inl (g.2.2.1 0, 31, .inl t_images_1_sizes)), ((a_t_images_2 0), .inr (1, [.ref (a_t_images_2 1), .ref (a_t_images_2 2), .ref (a_t_images_2 3), .ref (a_t_images_2 4), .ref (a_t_images_2 5), .int t_images_2_told, .int t_images_2_lines, .int t_images_2_kinds, .int t_images_2_acts])), ((a_t_images_2 3), .inl (g.2.2.1 0, 31, .inl t_images_2_rows)), ((a_t_images_2 4), .inl (g.2.2.1 0, 31, .inl t_images_2_sizes))] sz)) (va_Qi (fun x (_ : Unit) => x = o) (fun _ _ => True) (fun q => sz ≤ q)) 1 9 (fun q => sz ≤ q) := by
  refine ra_meti (by decide) (Nat.le_of_ble_eq_true rfl) (lv0 := [(0, .ref ((a_t 0))), (1, .int v1), (2, .int v2)]) rfl ?_
  intro p e s m args below meth c ls Q cx hret hG hb0 hO hl
  have hA : ∀ q, s.heap.size ≤ q → (fun q : Nat => s.heap.size ≤ q) q := fun _ h => h
  have hAb : ∀ q, (fun q : Nat => s.heap.size ≤ q) q → g.1 ≤ q := fun q h => Nat.le_trans hb0 h
  generalize hAe : (fun q : Nat => s.heap.size ≤ q) = A at hret hA hAb
  have hO0 := hO
  have hOk : ∀ {H : Heap} {locs : List Loc}, va_S A s.heap H locs → va_P g.2.1 vwCl [((a_t 0), .inr (6, [.ref (a_t_tape 0), .ref (a_t_reader 0), .ref (a_t_now 0), .ref (a_t 4), .ref (a_t_choices 0), .ref (a_t_ways 0), .ref (a_t_stress 0)])), ((a_t 4), .inl (g.2.2.1 4, 3, .inr (.inr (.inr (.inr (iF (a_t_images_0 0) (a_t_images_1 0) (a_t_images_2 0))))))), ((a_t_images_0 0), .inr (1, [.ref (a_t_images_0 1), .ref (a_t_images_0 2), .ref (a_t_images_0 3), .ref (a_t_images_0 4), .ref (a_t_images_0 5), .int t_images_0_told, .int t_images_0_lines, .int t_images_0_kinds, .int t_images_0_acts])), ((a_t_images_0 3), .inl (g.2.2.1 0, 31, .inl t_images_0_rows)), ((a_t_images_0 4), .inl (g.2.2.1 0, 31, .inl t_images_0_sizes)), ((a_t_images_1 0), .inr (1, [.ref (a_t_images_1 1), .ref (a_t_images_1 2), .ref (a_t_images_1 3), .ref (a_t_images_1 4), .ref (a_t_images_1 5), .int t_images_1_told, .int t_images_1_lines, .int t_images_1_kinds, .int t_images_1_acts])), ((a_t_images_1 3), .inl (g.2.2.1 0, 31, .inl t_images_1_rows)), ((a_t_images_1 4), .inl (g.2.2.1 0, 31, .inl t_images_1_sizes)), ((a_t_images_2 0), .inr (1, [.ref (a_t_images_2 1), .ref (a_t_images_2 2), .ref (a_t_images_2 3), .ref (a_t_images_2 4), .ref (a_t_images_2 5), .int t_images_2_told, .int t_images_2_lines, .int t_images_2_kinds, .int t_images_2_acts])), ((a_t_images_2 3), .inl (g.2.2.1 0, 31, .inl t_images_2_rows)), ((a_t_images_2 4), .inl (g.2.2.1 0, 31, .inl t_images_2_sizes))] H := fun hS => xw_old hO0 (by rw [hAe]; exact hS)
  have hP : va_P g.2.1 vwCl [] s.heap := fun k q hk => by simp at hk
  have hD : va_D A [] := ⟨fun i j p q hi => by simp at hi, fun k q hk => by simp at hk⟩
  have hx := cx.1
  have hb := cx.2.1
  have hG0 := hG
  have hGk : ∀ {H : Heap} {locs : List Loc}, va_S A s.heap H locs → GE g s H := fun hS => hG0.keptS hAb hS
  have hSb : ∀ {H : Heap} {locs : List Loc}, va_S A s.heap H locs → va_S (fun a => g.1 ≤ a) s.heap H locs := fun hS => ⟨hS.1, fun q h1 h2 => hS.2.1 q h1 (fun z => h2 (hAb q z)), fun l hl => hAb _ (hS.2.2 l hl)⟩
  have hS : va_S A s.heap s.heap [] := va_S.rf
  unfold fX7_partOf at h
  refine lv_aload_n hx hb dX7_partOf_0 rfl (lv_at hl 0 rfl) ?_
  refine lv_iload_n hx hb dX7_partOf_1 rfl (lv_at hl 1 rfl) ?_
  refine lv_iload_n hx hb dX7_partOf_2 rfl (lv_at hl 2 rfl) ?_
  obtain ⟨r1, hr2, h⟩ := bnd h
  refine ro_i (runV (As := [.int v1, .int v2]) (rest := []) cx hl.1 (ctX7_imagesBar l g a_t a_t_tape a_t_reader a_t_now a_t_choices a_t_ways a_t_stress a_t_images_0 a_t_images_1 a_t_images_2 t_images_0_told t_images_0_lines t_images_0_kinds t_images_0_acts t_images_1_told t_images_1_lines t_images_1_kinds t_images_1_acts t_images_2_told t_images_2_lines t_images_2_kinds t_images_2_acts v1 v2 r1 hr2) kmX7_imagesBar kvX7_imagesBar lm_X7_360 ⟨rfl, rfl⟩ ⟨Nat.le_of_ble_eq_true rfl, Nat.le_of_ble_eq_true rfl⟩ (roV (q0 := 0) (ci := 6) hG (hO.sub [0, 1, 2, 5, 8] rfl) hO rfl rfl) rfl rfl (Nat.le_of_ble_eq_true rfl) dX7_partOf_3 ⟨Nat.le_of_ble_eq_true rfl, Nat.le_of_ble_eq_true rfl⟩) ?_
  refine lv_istore_n (lv' := [(3, .int r1), (0, .ref ((a_t 0))), (1, .int v1), (2, .int v2)]) hx hb dX7_partOf_6 rfl hl (by decide) rfl (fun ls hl => ?_)
  refine lv_iload_n hx hb dX7_partOf_7 rfl (lv_at hl 0 rfl) ?_
  refine lv_if_eq (tgt := 15) hx hb dX7_partOf_8 (by decide) (fun c3 => ?_) (fun c3 => ?_)
  · have h := itp c3 h
    refine lv_aload_n hx hb dX7_partOf_15 rfl (lv_at hl 1 rfl) ?_
    refine xa_get (C := RX7) (T := TX7) (N := 7) cx hG hO 0 rfl rfl uX7 3 (by decide) lf_X7_34 rfl dX7_partOf_16 ?_
    refine lv_iload_n hx hb dX7_partOf_19 rfl (lv_at hl 2 rfl) ?_
    by_cases e4 : v1 = 0
    · have h := itp e4 h
      refine xa_ald3 (k := 0) cx hG hO 1 rfl (by rw [e4]; decide) rfl dX7_partOf_20 ?_
      refine lv_aload_n hx hb dX7_partOf_21 rfl (lv_at hl 1 rfl) ?_
      refine xa_get (C := RX7) (T := TX7) (N := 7) cx hG hO 0 rfl rfl uX7 3 (by decide) lf_X7_34 rfl dX7_partOf_22 ?_
      refine lv_iload_n hx hb dX7_partOf_25 rfl (lv_at hl 3 rfl) ?_
      by_cases e5 : v2 = 0
      · have h := itp e5 h
        refine xa_ald3 (k := 0) cx hG hO 1 rfl (by rw [e5]; decide) rfl dX7_partOf_26 ?_
        obtain ⟨r6, hr7, h⟩ := bnd h
        refine ra_z (runVN (As := [.ref ((a_t_images_0 0))]) (rest := []) hG cx hl.1 (ctX1_isPartOf l g s.heap.size a_t_images_0 a_t_images_0 t_images_0_told t_images_0_lines t_images_0_kinds t_images_0_acts t_images_0_rows t_images_0_sizes t_images_0_told t_images_0_lines t_images_0_kinds t_images_0_acts t_images_0_rows t_images_0_sizes r6 hr7) kmX1_isPartOf kvX1_isPartOf nm_105 ⟨rfl, rfl⟩ ⟨Nat.le_of_ble_eq_true rfl, Nat.le_of_ble_eq_true rfl⟩ (raV (q0 := 2) (ci := 1) hG (hO.sub [2, 3, 4, 2, 3, 4] rfl) hb0 hS hO rfl rfl) rfl rfl (Nat.le_of_ble_eq_true rfl) dX7_partOf_27 ⟨Nat.le_of_ble_eq_true rfl, Nat.le_of_ble_eq_true rfl⟩) hS hA (fun hz8 H locs _ hS => ?_)
        have hG := hGk hS
        have hO := hOk hS
        refine lv_if_eq (tgt := 37) hx hb dX7_partOf_30 (by decide) (fun c9 => ?_) (fun c9 => ?_)
        · have h := itp c9 h
          refine lv_iconst (v := 0) hx hb dX7_partOf_37 (by decide) ?_
          cases h
          exact hret _ _ _ _ _ dX7_partOf_38 rfl hS
        · have h := itn c9 h
          refine lv_iconst (v := 1) hx hb dX7_partOf_33 (by decide) ?_
          refine lv_goto (tgt := 38) hx hb dX7_partOf_34 (by decide) ?_
          cases h
          exact hret _ _ _ _ _ dX7_partOf_38 rfl hS
      · have h := itn e5 h
        by_cases e10 : v2 = 1
        · have h := itp e10 h
          refine xa_ald3 (k := 1) cx hG hO 1 rfl (by rw [e10]; decide) rfl dX7_partOf_26 ?_
          obtain ⟨r11, hr12, h⟩ := bnd h
          refine ra_z (runVN (As := [.ref ((a_t_images_1 0))]) (rest := []) hG cx hl.1 (ctX1_isPartOf l g s.heap.size a_t_images_0 a_t_images_1 t_images_0_told t_images_0_lines t_images_0_kinds t_images_0_acts t_images_0_rows t_images_0_sizes t_images_1_told t_images_1_lines t_images_1_kinds t_images_1_acts t_images_1_rows t_images_1_sizes r11 hr12) kmX1_isPartOf kvX1_isPartOf nm_105 ⟨rfl, rfl⟩ ⟨Nat.le_of_ble_eq_true rfl, Nat.le_of_ble_eq_true rfl⟩ (raV (q0 := 2) (ci := 1) hG (hO.sub [2, 3, 4, 5, 6, 7] rfl) hb0 hS hO rfl rfl) rfl rfl (Nat.le_of_ble_eq_true rfl) dX7_partOf_27 ⟨Nat.le_of_ble_eq_true rfl, Nat.le_of_ble_eq_true rfl⟩) hS hA (fun hz13 H locs _ hS => ?_)
          have hG := hGk hS
          have hO := hOk hS
          refine lv_if_eq (tgt := 37) hx hb dX7_partOf_30 (by decide) (fun c14 => ?_) (fun c14 => ?_)
          · have h := itp c14 h
            refine lv_iconst (v := 0) hx hb dX7_partOf_37 (by decide) ?_
            cases h
            exact hret _ _ _ _ _ dX7_partOf_38 rfl hS
          · have h := itn c14 h
            refine lv_iconst (v := 1) hx hb dX7_partOf_33 (by decide) ?_
            refine lv_goto (tgt := 38) hx hb dX7_partOf_34 (by decide) ?_
            cases h
            exact hret _ _ _ _ _ dX7_partOf_38 rfl hS
        · have h := itn e10 h
          by_cases e15 : v2 = 2
          · have h := itp e15 h
            refine xa_ald3 (k := 2) cx hG hO 1 rfl (by rw [e15]; decide) rfl dX7_partOf_26 ?_
            obtain ⟨r16, hr17, h⟩ := bnd h
            refine ra_z (runVN (As := [.ref ((a_t_images_2 0))]) (rest := []) hG cx hl.1 (ctX1_isPartOf l g s.heap.size a_t_images_0 a_t_images_2 t_images_0_told t_images_0_lines t_images_0_kinds t_images_0_acts t_images_0_rows t_images_0_sizes t_images_2_told t_images_2_lines t_images_2_kinds t_images_2_acts t_images_2_rows t_images_2_sizes r16 hr17) kmX1_isPartOf kvX1_isPartOf nm_105 ⟨rfl, rfl⟩ ⟨Nat.le_of_ble_eq_true rfl, Nat.le_of_ble_eq_true rfl⟩ (raV (q0 := 2) (ci := 1) hG (hO.sub [2, 3, 4, 8, 9, 10] rfl) hb0 hS hO rfl rfl) rfl rfl (Nat.le_of_ble_eq_true rfl) dX7_partOf_27 ⟨Nat.le_of_ble_eq_true rfl, Nat.le_of_ble_eq_true rfl⟩) hS hA (fun hz18 H locs _ hS => ?_)
            have hG := hGk hS
            have hO := hOk hS
            refine lv_if_eq (tgt := 37) hx hb dX7_partOf_30 (by decide) (fun c19 => ?_) (fun c19 => ?_)
            · have h := itp c19 h
              refine lv_iconst (v := 0) hx hb dX7_partOf_37 (by decide) ?_
              cases h
              exact hret _ _ _ _ _ dX7_partOf_38 rfl hS
            · have h := itn c19 h
              refine lv_iconst (v := 1) hx hb dX7_partOf_33 (by decide) ?_
              refine lv_goto (tgt := 38) hx hb dX7_partOf_34 (by decide) ?_
              cases h
              exact hret _ _ _ _ _ dX7_partOf_38 rfl hS
          · have h := itn e15 h
            cases h
    · have h := itn e4 h
      by_cases e20 : v1 = 1
      · have h := itp e20 h
        refine xa_ald3 (k := 1) cx hG hO 1 rfl (by rw [e20]; decide) rfl dX7_partOf_20 ?_
        refine lv_aload_n hx hb dX7_partOf_21 rfl (lv_at hl 1 rfl) ?_
        refine xa_get (C := RX7) (T := TX7) (N := 7) cx hG hO 0 rfl rfl uX7 3 (by decide) lf_X7_34 rfl dX7_partOf_22 ?_
        refine lv_iload_n hx hb dX7_partOf_25 rfl (lv_at hl 3 rfl) ?_
        by_cases e21 : v2 = 0
        · have h := itp e21 h
          refine xa_ald3 (k := 0) cx hG hO 1 rfl (by rw [e21]; decide) rfl dX7_partOf_26 ?_
          obtain ⟨r22, hr23, h⟩ := bnd h
          refine ra_z (runVN (As := [.ref ((a_t_images_0 0))]) (rest := []) hG cx hl.1 (ctX1_isPartOf l g s.heap.size a_t_images_1 a_t_images_0 t_images_1_told t_images_1_lines t_images_1_kinds t_images_1_acts t_images_1_rows t_images_1_sizes t_images_0_told t_images_0_lines t_images_0_kinds t_images_0_acts t_images_0_rows t_images_0_sizes r22 hr23) kmX1_isPartOf kvX1_isPartOf nm_105 ⟨rfl, rfl⟩ ⟨Nat.le_of_ble_eq_true rfl, Nat.le_of_ble_eq_true rfl⟩ (raV (q0 := 5) (ci := 1) hG (hO.sub [5, 6, 7, 2, 3, 4] rfl) hb0 hS hO rfl rfl) rfl rfl (Nat.le_of_ble_eq_true rfl) dX7_partOf_27 ⟨Nat.le_of_ble_eq_true rfl, Nat.le_of_ble_eq_true rfl⟩) hS hA (fun hz24 H locs _ hS => ?_)
          have hG := hGk hS
          have hO := hOk hS
          refine lv_if_eq (tgt := 37) hx hb dX7_partOf_30 (by decide) (fun c25 => ?_) (fun c25 => ?_)
          · have h := itp c25 h
            refine lv_iconst (v := 0) hx hb dX7_partOf_37 (by decide) ?_
            cases h
            exact hret _ _ _ _ _ dX7_partOf_38 rfl hS
          · have h := itn c25 h
            refine lv_iconst (v := 1) hx hb dX7_partOf_33 (by decide) ?_
            refine lv_goto (tgt := 38) hx hb dX7_partOf_34 (by decide) ?_
            cases h
            exact hret _ _ _ _ _ dX7_partOf_38 rfl hS
        · have h := itn e21 h
          by_cases e26 : v2 = 1
          · have h := itp e26 h
            refine xa_ald3 (k := 1) cx hG hO 1 rfl (by rw [e26]; decide) rfl dX7_partOf_26 ?_
            obtain ⟨r27, hr28, h⟩ := bnd h
            refine ra_z (runVN (As := [.ref ((a_t_images_1 0))]) (rest := []) hG cx hl.1 (ctX1_isPartOf l g s.heap.size a_t_images_1 a_t_images_1 t_images_1_told t_images_1_lines t_images_1_kinds t_images_1_acts t_images_1_rows t_images_1_sizes t_images_1_told t_images_1_lines t_images_1_kinds t_images_1_acts t_images_1_rows t_images_1_sizes r27 hr28) kmX1_isPartOf kvX1_isPartOf nm_105 ⟨rfl, rfl⟩ ⟨Nat.le_of_ble_eq_true rfl, Nat.le_of_ble_eq_true rfl⟩ (raV (q0 := 5) (ci := 1) hG (hO.sub [5, 6, 7, 5, 6, 7] rfl) hb0 hS hO rfl rfl) rfl rfl (Nat.le_of_ble_eq_true rfl) dX7_partOf_27 ⟨Nat.le_of_ble_eq_true rfl, Nat.le_of_ble_eq_true rfl⟩) hS hA (fun hz29 H locs _ hS => ?_)
            have hG := hGk hS
            have hO := hOk hS
            refine lv_if_eq (tgt := 37) hx hb dX7_partOf_30 (by decide) (fun c30 => ?_) (fun c30 => ?_)
            · have h := itp c30 h
              refine lv_iconst (v := 0) hx hb dX7_partOf_37 (by decide) ?_
              cases h
              exact hret _ _ _ _ _ dX7_partOf_38 rfl hS
            · have h := itn c30 h
              refine lv_iconst (v := 1) hx hb dX7_partOf_33 (by decide) ?_
              refine lv_goto (tgt := 38) hx hb dX7_partOf_34 (by decide) ?_
              cases h
              exact hret _ _ _ _ _ dX7_partOf_38 rfl hS
          · have h := itn e26 h
            by_cases e31 : v2 = 2
            · have h := itp e31 h
              refine xa_ald3 (k := 2) cx hG hO 1 rfl (by rw [e31]; decide) rfl dX7_partOf_26 ?_
              obtain ⟨r32, hr33, h⟩ := bnd h
              refine ra_z (runVN (As := [.ref ((a_t_images_2 0))]) (rest := []) hG cx hl.1 (ctX1_isPartOf l g s.heap.size a_t_images_1 a_t_images_2 t_images_1_told t_images_1_lines t_images_1_kinds t_images_1_acts t_images_1_rows t_images_1_sizes t_images_2_told t_images_2_lines t_images_2_kinds t_images_2_acts t_images_2_rows t_images_2_sizes r32 hr33) kmX1_isPartOf kvX1_isPartOf nm_105 ⟨rfl, rfl⟩ ⟨Nat.le_of_ble_eq_true rfl, Nat.le_of_ble_eq_true rfl⟩ (raV (q0 := 5) (ci := 1) hG (hO.sub [5, 6, 7, 8, 9, 10] rfl) hb0 hS hO rfl rfl) rfl rfl (Nat.le_of_ble_eq_true rfl) dX7_partOf_27 ⟨Nat.le_of_ble_eq_true rfl, Nat.le_of_ble_eq_true rfl⟩) hS hA (fun hz34 H locs _ hS => ?_)
              have hG := hGk hS
              have hO := hOk hS
              refine lv_if_eq (tgt := 37) hx hb dX7_partOf_30 (by decide) (fun c35 => ?_) (fun c35 => ?_)
              · have h := itp c35 h
                refine lv_iconst (v := 0) hx hb dX7_partOf_37 (by decide) ?_
                cases h
                exact hret _ _ _ _ _ dX7_partOf_38 rfl hS
              · have h := itn c35 h
                refine lv_iconst (v := 1) hx hb dX7_partOf_33 (by decide) ?_
                refine lv_goto (tgt := 38) hx hb dX7_partOf_34 (by decide) ?_
                cases h
                exact hret _ _ _ _ _ dX7_partOf_38 rfl hS
            · have h := itn e31 h
              cases h
      · have h := itn e20 h
        by_cases e36 : v1 = 2
        · have h := itp e36 h
          refine xa_ald3 (k := 2) cx hG hO 1 rfl (by rw [e36]; decide) rfl dX7_partOf_20 ?_
          refine lv_aload_n hx hb dX7_partOf_21 rfl (lv_at hl 1 rfl) ?_
          refine xa_get (C := RX7) (T := TX7) (N := 7) cx hG hO 0 rfl rfl uX7 3 (by decide) lf_X7_34 rfl dX7_partOf_22 ?_
          refine lv_iload_n hx hb dX7_partOf_25 rfl (lv_at hl 3 rfl) ?_
          by_cases e37 : v2 = 0
          · have h := itp e37 h
            refine xa_ald3 (k := 0) cx hG hO 1 rfl (by rw [e37]; decide) rfl dX7_partOf_26 ?_
            obtain ⟨r38, hr39, h⟩ := bnd h
            refine ra_z (runVN (As := [.ref ((a_t_images_0 0))]) (rest := []) hG cx hl.1 (ctX1_isPartOf l g s.heap.size a_t_images_2 a_t_images_0 t_images_2_told t_images_2_lines t_images_2_kinds t_images_2_acts t_images_2_rows t_images_2_sizes t_images_0_told t_images_0_lines t_images_0_kinds t_images_0_acts t_images_0_rows t_images_0_sizes r38 hr39) kmX1_isPartOf kvX1_isPartOf nm_105 ⟨rfl, rfl⟩ ⟨Nat.le_of_ble_eq_true rfl, Nat.le_of_ble_eq_true rfl⟩ (raV (q0 := 8) (ci := 1) hG (hO.sub [8, 9, 10, 2, 3, 4] rfl) hb0 hS hO rfl rfl) rfl rfl (Nat.le_of_ble_eq_true rfl) dX7_partOf_27 ⟨Nat.le_of_ble_eq_true rfl, Nat.le_of_ble_eq_true rfl⟩) hS hA (fun hz40 H locs _ hS => ?_)
            have hG := hGk hS
            have hO := hOk hS
            refine lv_if_eq (tgt := 37) hx hb dX7_partOf_30 (by decide) (fun c41 => ?_) (fun c41 => ?_)
            · have h := itp c41 h
              refine lv_iconst (v := 0) hx hb dX7_partOf_37 (by decide) ?_
              cases h
              exact hret _ _ _ _ _ dX7_partOf_38 rfl hS
            · have h := itn c41 h
              refine lv_iconst (v := 1) hx hb dX7_partOf_33 (by decide) ?_
              refine lv_goto (tgt := 38) hx hb dX7_partOf_34 (by decide) ?_
              cases h
              exact hret _ _ _ _ _ dX7_partOf_38 rfl hS
          · have h := itn e37 h
            by_cases e42 : v2 = 1
            · have h := itp e42 h
              refine xa_ald3 (k := 1) cx hG hO 1 rfl (by rw [e42]; decide) rfl dX7_partOf_26 ?_
              obtain ⟨r43, hr44, h⟩ := bnd h
              refine ra_z (runVN (As := [.ref ((a_t_images_1 0))]) (rest := []) hG cx hl.1 (ctX1_isPartOf l g s.heap.size a_t_images_2 a_t_images_1 t_images_2_told t_images_2_lines t_images_2_kinds t_images_2_acts t_images_2_rows t_images_2_sizes t_images_1_told t_images_1_lines t_images_1_kinds t_images_1_acts t_images_1_rows t_images_1_sizes r43 hr44) kmX1_isPartOf kvX1_isPartOf nm_105 ⟨rfl, rfl⟩ ⟨Nat.le_of_ble_eq_true rfl, Nat.le_of_ble_eq_true rfl⟩ (raV (q0 := 8) (ci := 1) hG (hO.sub [8, 9, 10, 5, 6, 7] rfl) hb0 hS hO rfl rfl) rfl rfl (Nat.le_of_ble_eq_true rfl) dX7_partOf_27 ⟨Nat.le_of_ble_eq_true rfl, Nat.le_of_ble_eq_true rfl⟩) hS hA (fun hz45 H locs _ hS => ?_)
              have hG := hGk hS
              have hO := hOk hS
              refine lv_if_eq (tgt := 37) hx hb dX7_partOf_30 (by decide) (fun c46 => ?_) (fun c46 => ?_)
              · have h := itp c46 h
                refine lv_iconst (v := 0) hx hb dX7_partOf_37 (by decide) ?_
                cases h
                exact hret _ _ _ _ _ dX7_partOf_38 rfl hS
              · have h := itn c46 h
                refine lv_iconst (v := 1) hx hb dX7_partOf_33 (by decide) ?_
                refine lv_goto (tgt := 38) hx hb dX7_partOf_34 (by decide) ?_
                cases h
                exact hret _ _ _ _ _ dX7_partOf_38 rfl hS
            · have h := itn e42 h
              by_cases e47 : v2 = 2
              · have h := itp e47 h
                refine xa_ald3 (k := 2) cx hG hO 1 rfl (by rw [e47]; decide) rfl dX7_partOf_26 ?_
                obtain ⟨r48, hr49, h⟩ := bnd h
                refine ra_z (runVN (As := [.ref ((a_t_images_2 0))]) (rest := []) hG cx hl.1 (ctX1_isPartOf l g s.heap.size a_t_images_2 a_t_images_2 t_images_2_told t_images_2_lines t_images_2_kinds t_images_2_acts t_images_2_rows t_images_2_sizes t_images_2_told t_images_2_lines t_images_2_kinds t_images_2_acts t_images_2_rows t_images_2_sizes r48 hr49) kmX1_isPartOf kvX1_isPartOf nm_105 ⟨rfl, rfl⟩ ⟨Nat.le_of_ble_eq_true rfl, Nat.le_of_ble_eq_true rfl⟩ (raV (q0 := 8) (ci := 1) hG (hO.sub [8, 9, 10, 8, 9, 10] rfl) hb0 hS hO rfl rfl) rfl rfl (Nat.le_of_ble_eq_true rfl) dX7_partOf_27 ⟨Nat.le_of_ble_eq_true rfl, Nat.le_of_ble_eq_true rfl⟩) hS hA (fun hz50 H locs _ hS => ?_)
                have hG := hGk hS
                have hO := hOk hS
                refine lv_if_eq (tgt := 37) hx hb dX7_partOf_30 (by decide) (fun c51 => ?_) (fun c51 => ?_)
                · have h := itp c51 h
                  refine lv_iconst (v := 0) hx hb dX7_partOf_37 (by decide) ?_
                  cases h
                  exact hret _ _ _ _ _ dX7_partOf_38 rfl hS
                · have h := itn c51 h
                  refine lv_iconst (v := 1) hx hb dX7_partOf_33 (by decide) ?_
                  refine lv_goto (tgt := 38) hx hb dX7_partOf_34 (by decide) ?_
                  cases h
                  exact hret _ _ _ _ _ dX7_partOf_38 rfl hS
              · have h := itn e47 h
                cases h
        · have h := itn e36 h
          cases h
  · have h := itn c3 h
    refine lv_iload_n hx hb dX7_partOf_11 rfl (lv_at hl 0 rfl) ?_
    refine lv_goto (tgt := 38) hx hb dX7_partOf_12 (by decide) ?_
    refine W.widen (k := 1) (n := 9) (Nat.le_of_ble_eq_true rfl) (Nat.le_of_ble_eq_true rfl) ?_
    cases h
    exact hret _ _ _ _ _ dX7_partOf_38 rfl hS
