theorem kcopy : Cond.native arraycopyName ∈ Tw ∧ Cond.static arraycopyName ∈ Tw ∧ Cond.initialized "java/lang/System" ∈ Tw := ⟨tt_2 154 (by decide +kernel) rfl, tt_2 153 (by decide +kernel) rfl, tt_1 14 (by decide +kernel) rfl⟩
theorem arB : Cond.arrayClass .byte ∈ Tw := tt_1 40 (by decide +kernel) rfl
theorem arI : Cond.arrayClass .int ∈ Tw := tt_1 91 (by decide +kernel) rfl
theorem arJ : Cond.arrayClass .long ∈ Tw := tt_1 154 (by decide +kernel) rfl
theorem arZ : Cond.arrayClass .boolean ∈ Tw := tt_5 230 (by decide +kernel) rfl
theorem ci_J6_265 : Cond.constant RJ6 265 (1431655765) ∈ Tw := tt_4 86 (by decide +kernel) rfl
theorem ci_J6_266 : Cond.constant RJ6 266 (858993459) ∈ Tw := tt_4 87 (by decide +kernel) rfl
theorem ci_J6_267 : Cond.constant RJ6 267 (252645135) ∈ Tw := tt_4 88 (by decide +kernel) rfl
theorem ci_X8_103 : Cond.constant RX8 103 (99999) ∈ Tw := tt_6 14 (by decide +kernel) rfl
theorem ci_X8_376 : Cond.constant RX8 376 (65535) ∈ Tw := tt_7 72 (by decide +kernel) rfl
theorem ci_X8_70 : Cond.constant RX8 70 (65536) ∈ Tw := tt_5 120 (by decide +kernel) rfl
theorem cl_X0_138 : Cond.constantLong RX0 138 (1048576) ∈ Tw := tt_4 67 (by decide +kernel) rfl
theorem cl_X0_140 : Cond.constantLong RX0 140 (-7046029254386353131) ∈ Tw := tt_4 72 (by decide +kernel) rfl
theorem cl_X0_98 : Cond.constantLong RX0 98 (4294967295) ∈ Tw := tt_3 213 (by decide +kernel) rfl
theorem cl_X4_35 : Cond.constantLong RX4 35 (2) ∈ Tw := tt_3 110 (by decide +kernel) rfl
theorem cl_X7_146 : Cond.constantLong RX7 146 (-9223372036854775808) ∈ Tw := tt_2 234 (by decide +kernel) rfl
theorem cl_X7_162 : Cond.constantLong RX7 162 (-2) ∈ Tw := tt_3 41 (by decide +kernel) rfl
theorem cl_X7_196 : Cond.constantLong RX7 196 (-9223372036854775807) ∈ Tw := tt_3 105 (by decide +kernel) rfl
theorem cl_X7_209 : Cond.constantLong RX7 209 (-6) ∈ Tw := tt_3 130 (by decide +kernel) rfl
theorem cl_X7_265 : Cond.constantLong RX7 265 (-1) ∈ Tw := tt_4 34 (by decide +kernel) rfl
theorem cl_X8_191 : Cond.constantLong RX8 191 (7) ∈ Tw := tt_7 36 (by decide +kernel) rfl
theorem cl_X8_197 : Cond.constantLong RX8 197 (5) ∈ Tw := tt_6 87 (by decide +kernel) rfl
theorem cl_X8_202 : Cond.constantLong RX8 202 (4) ∈ Tw := tt_6 96 (by decide +kernel) rfl
theorem cl_X8_204 : Cond.constantLong RX8 204 (3) ∈ Tw := tt_6 101 (by decide +kernel) rfl
theorem cl_X8_239 : Cond.constantLong RX8 239 (2) ∈ Tw := tt_6 110 (by decide +kernel) rfl
theorem cl_X8_241 : Cond.constantLong RX8 241 (-9223372036854775808) ∈ Tw := tt_6 111 (by decide +kernel) rfl
theorem cl_X8_249 : Cond.constantLong RX8 249 (-2) ∈ Tw := tt_6 152 (by decide +kernel) rfl
theorem cl_X8_268 : Cond.constantLong RX8 268 (-999) ∈ Tw := tt_6 185 (by decide +kernel) rfl
theorem cl_X8_270 : Cond.constantLong RX8 270 (999) ∈ Tw := tt_6 186 (by decide +kernel) rfl
theorem cl_X8_280 : Cond.constantLong RX8 280 (-9223372036854775807) ∈ Tw := tt_6 199 (by decide +kernel) rfl
theorem cl_X8_290 : Cond.constantLong RX8 290 (-6) ∈ Tw := tt_6 214 (by decide +kernel) rfl
theorem cl_X8_298 : Cond.constantLong RX8 298 (-1) ∈ Tw := tt_6 223 (by decide +kernel) rfl
theorem cl_X8_370 : Cond.constantLong RX8 370 (2097152) ∈ Tw := tt_7 69 (by decide +kernel) rfl
theorem cl_X8_372 : Cond.constantLong RX8 372 (1048576) ∈ Tw := tt_7 70 (by decide +kernel) rfl
theorem cl_X8_374 : Cond.constantLong RX8 374 (65535) ∈ Tw := tt_7 71 (by decide +kernel) rfl
theorem cl_X8_437 : Cond.constantLong RX8 437 (8) ∈ Tw := tt_8 11 (by decide +kernel) rfl
theorem kmJ0_charAt_5068e : KM yJ0_charAt_5068e cJ0_charAt_5068e 2 (some .char) 1 := ⟨tt_2 36 (by decide +kernel) rfl, tt_1 9 (by decide +kernel) rfl, by decide⟩
theorem kmJ0_checkIndex_df160 : KM yJ0_checkIndex_df160 cJ0_checkIndex_df160 2 none 2 := ⟨tt_2 46 (by decide +kernel) rfl, tt_1 9 (by decide +kernel) rfl, by decide⟩
theorem kmJ0_coder_7d493 : KM yJ0_coder_7d493 cJ0_coder_7d493 1 (some .byte) 0 := ⟨tt_2 26 (by decide +kernel) rfl, tt_1 9 (by decide +kernel) rfl, by decide⟩
theorem kmJ0_isLatin1_aae02 : KM yJ0_isLatin1_aae02 cJ0_isLatin1_aae02 1 (some .boolean) 0 := ⟨tt_2 40 (by decide +kernel) rfl, tt_1 9 (by decide +kernel) rfl, by decide⟩
theorem kmJ0_length_8abf5 : KM yJ0_length_8abf5 cJ0_length_8abf5 1 (some .int) 0 := ⟨tt_2 22 (by decide +kernel) rfl, tt_1 9 (by decide +kernel) rfl, by decide⟩
theorem kmJ1_charAt_3b067 : KM yJ1_charAt_3b067 cJ1_charAt_3b067 2 (some .char) 2 := ⟨tt_2 43 (by decide +kernel) rfl, tt_1 10 (by decide +kernel) rfl, by decide⟩
theorem kmJ3_checkIndex_8e157 : KM yJ3_checkIndex_8e157 cJ3_checkIndex_8e157 3 (some .int) 3 := ⟨tt_2 51 (by decide +kernel) rfl, tt_1 11 (by decide +kernel) rfl, by decide⟩
theorem kmJ6_bitCount_0f7a4 : KM yJ6_bitCount_0f7a4 cJ6_bitCount_0f7a4 1 (some .int) 1 := ⟨tt_4 85 (by decide +kernel) rfl, tt_1 17 (by decide +kernel) rfl, by decide⟩
theorem kmJ7_fill_53178 : KM yJ7_fill_53178 cJ7_fill_53178 4 none 2 := ⟨tt_4 139 (by decide +kernel) rfl, tt_1 16 (by decide +kernel) rfl, by decide⟩
theorem kmJ7_fill_d0a16 : KM yJ7_fill_d0a16 cJ7_fill_d0a16 5 none 2 := ⟨tt_4 62 (by decide +kernel) rfl, tt_1 16 (by decide +kernel) rfl, by decide⟩
theorem kmJ9_abs_067f4 : KM yJ9_abs_067f4 cJ9_abs_067f4 2 (some .long) 1 := ⟨tt_3 40 (by decide +kernel) rfl, tt_1 13 (by decide +kernel) rfl, by decide⟩
theorem kmJ9_max_7cf53 : KM yJ9_max_7cf53 cJ9_max_7cf53 2 (some .int) 2 := ⟨tt_3 62 (by decide +kernel) rfl, tt_1 13 (by decide +kernel) rfl, by decide⟩
theorem kmJ9_min_7cf53 : KM yJ9_min_7cf53 cJ9_min_7cf53 2 (some .int) 2 := ⟨tt_2 86 (by decide +kernel) rfl, tt_1 13 (by decide +kernel) rfl, by decide⟩
theorem kmJ9_min_f86c9 : KM yJ9_min_f86c9 cJ9_min_f86c9 4 (some .long) 2 := ⟨tt_3 173 (by decide +kernel) rfl, tt_1 13 (by decide +kernel) rfl, by decide⟩
theorem kmX0_bendKey : KM yX0_bendKey cX0_bendKey 8 (some .long) 2 := ⟨tt_4 66 (by decide +kernel) rfl, tt_1 5 (by decide +kernel) rfl, by decide⟩
theorem kmX0_bestIndex : KM yX0_bestIndex cX0_bestIndex 12 (some .int) 3 := ⟨tt_4 22 (by decide +kernel) rfl, tt_1 5 (by decide +kernel) rfl, by decide⟩
theorem kmX0_find : KM yX0_find cX0_find 5 (some .int) 2 := ⟨tt_4 0 (by decide +kernel) rfl, tt_1 5 (by decide +kernel) rfl, by decide⟩
theorem kmX0_forget : KM yX0_forget cX0_forget 1 none 0 := ⟨tt_2 158 (by decide +kernel) rfl, tt_1 5 (by decide +kernel) rfl, by decide⟩
theorem kmX0_howMany : KM yX0_howMany cX0_howMany 2 (some .int) 1 := ⟨tt_3 224 (by decide +kernel) rfl, tt_1 5 (by decide +kernel) rfl, by decide⟩
theorem kmX0_init : KM yX0_init cX0_init 1 none 0 := ⟨tt_1 130 (by decide +kernel) rfl, tt_1 5 (by decide +kernel) rfl, by decide⟩
theorem kmX0_isAmong : KM yX0_isAmong cX0_isAmong 3 (some .boolean) 2 := ⟨tt_3 232 (by decide +kernel) rfl, tt_1 5 (by decide +kernel) rfl, by decide⟩
theorem kmX0_isNew : KM yX0_isNew cX0_isNew 6 (some .boolean) 1 := ⟨tt_4 71 (by decide +kernel) rfl, tt_1 5 (by decide +kernel) rfl, by decide⟩
theorem kmX0_lay : KM yX0_lay cX0_lay 17 none 7 := ⟨tt_3 201 (by decide +kernel) rfl, tt_1 5 (by decide +kernel) rfl, by decide⟩
theorem kmX0_merit : KM yX0_merit cX0_merit 4 (some .long) 3 := ⟨tt_4 26 (by decide +kernel) rfl, tt_1 5 (by decide +kernel) rfl, by decide⟩
theorem kmX0_mostRows : KM yX0_mostRows cX0_mostRows 4 (some .int) 0 := ⟨tt_3 195 (by decide +kernel) rfl, tt_1 5 (by decide +kernel) rfl, by decide⟩
theorem kmX0_nearestIndex : KM yX0_nearestIndex cX0_nearestIndex 7 (some .int) 2 := ⟨tt_4 43 (by decide +kernel) rfl, tt_1 5 (by decide +kernel) rfl, by decide⟩
theorem kmX0_placeAt : KM yX0_placeAt cX0_placeAt 5 (some .int) 2 := ⟨tt_3 228 (by decide +kernel) rfl, tt_1 5 (by decide +kernel) rfl, by decide⟩
theorem kmX0_placeOf : KM yX0_placeOf cX0_placeOf 5 (some .int) 2 := ⟨tt_4 13 (by decide +kernel) rfl, tt_1 5 (by decide +kernel) rfl, by decide⟩
theorem kmX0_prepare : KM yX0_prepare cX0_prepare 4 none 1 := ⟨tt_3 185 (by decide +kernel) rfl, tt_1 5 (by decide +kernel) rfl, by decide⟩
theorem kmX0_rowAt : KM yX0_rowAt cX0_rowAt 2 (some .int) 1 := ⟨tt_4 4 (by decide +kernel) rfl, tt_1 5 (by decide +kernel) rfl, by decide⟩
theorem kmX0_shapeOf : KM yX0_shapeOf cX0_shapeOf 6 (some .int) 4 := ⟨tt_3 205 (by decide +kernel) rfl, tt_1 5 (by decide +kernel) rfl, by decide⟩
theorem kmX0_store : KM yX0_store cX0_store 3 none 2 := ⟨tt_3 212 (by decide +kernel) rfl, tt_1 5 (by decide +kernel) rfl, by decide⟩
theorem kmX0_unlikeBends : KM yX0_unlikeBends cX0_unlikeBends 6 (some .int) 2 := ⟨tt_4 59 (by decide +kernel) rfl, tt_1 5 (by decide +kernel) rfl, by decide⟩
theorem kmX1_act : KM yX1_act cX1_act 4 none 3 := ⟨tt_5 0 (by decide +kernel) rfl, tt_1 4 (by decide +kernel) rfl, by decide⟩
theorem kmX1_allPlies : KM yX1_allPlies cX1_allPlies 1 (some .int) 0 := ⟨tt_4 100 (by decide +kernel) rfl, tt_1 4 (by decide +kernel) rfl, by decide⟩
theorem kmX1_cellAt : KM yX1_cellAt cX1_cellAt 3 (some .int) 2 := ⟨tt_3 220 (by decide +kernel) rfl, tt_1 4 (by decide +kernel) rfl, by decide⟩
theorem kmX1_clear : KM yX1_clear cX1_clear 1 none 0 := ⟨tt_1 233 (by decide +kernel) rfl, tt_1 4 (by decide +kernel) rfl, by decide⟩
theorem kmX1_copy : KM yX1_copy cX1_copy 2 none 1 := ⟨tt_2 151 (by decide +kernel) rfl, tt_1 4 (by decide +kernel) rfl, by decide⟩
theorem kmX1_fillCells : KM yX1_fillCells cX1_fillCells 11 none 1 := ⟨tt_2 121 (by decide +kernel) rfl, tt_1 4 (by decide +kernel) rfl, by decide⟩
theorem kmX1_init : KM yX1_init cX1_init 1 none 0 := ⟨tt_1 51 (by decide +kernel) rfl, tt_1 4 (by decide +kernel) rfl, by decide⟩
theorem kmX1_isBalanced : KM yX1_isBalanced cX1_isBalanced 3 (some .boolean) 0 := ⟨tt_3 28 (by decide +kernel) rfl, tt_1 4 (by decide +kernel) rfl, by decide⟩
theorem kmX1_isFull : KM yX1_isFull cX1_isFull 1 (some .boolean) 0 := ⟨tt_4 233 (by decide +kernel) rfl, tt_1 4 (by decide +kernel) rfl, by decide⟩
theorem kmX1_isOfSamePlies : KM yX1_isOfSamePlies cX1_isOfSamePlies 2 (some .boolean) 1 := ⟨tt_5 92 (by decide +kernel) rfl, tt_1 4 (by decide +kernel) rfl, by decide⟩
theorem kmX1_isPartOf : KM yX1_isPartOf cX1_isPartOf 2 (some .boolean) 1 := ⟨tt_5 101 (by decide +kernel) rfl, tt_1 4 (by decide +kernel) rfl, by decide⟩
theorem kmX1_isRowFlat : KM yX1_isRowFlat cX1_isRowFlat 7 (some .boolean) 2 := ⟨tt_3 18 (by decide +kernel) rfl, tt_1 4 (by decide +kernel) rfl, by decide⟩
theorem kmX1_isRowStraight : KM yX1_isRowStraight cX1_isRowStraight 3 (some .boolean) 2 := ⟨tt_3 24 (by decide +kernel) rfl, tt_1 4 (by decide +kernel) rfl, by decide⟩
theorem kmX1_limitAt : KM yX1_limitAt cX1_limitAt 2 (some .int) 1 := ⟨tt_3 149 (by decide +kernel) rfl, tt_1 4 (by decide +kernel) rfl, by decide⟩
theorem kmX1_longestCommon : KM yX1_longestCommon cX1_longestCommon 8 (some .int) 1 := ⟨tt_5 105 (by decide +kernel) rfl, tt_1 4 (by decide +kernel) rfl, by decide⟩
theorem kmX1_number : KM yX1_number cX1_number 3 (some .int) 2 := ⟨tt_2 125 (by decide +kernel) rfl, tt_1 4 (by decide +kernel) rfl, by decide⟩
theorem kmX1_plies : KM yX1_plies cX1_plies 1 (some .int) 0 := ⟨tt_2 174 (by decide +kernel) rfl, tt_1 4 (by decide +kernel) rfl, by decide⟩
theorem kmX1_pliesOfKind : KM yX1_pliesOfKind cX1_pliesOfKind 4 (some .int) 1 := ⟨tt_2 186 (by decide +kernel) rfl, tt_1 4 (by decide +kernel) rfl, by decide⟩
theorem kmX1_roomNow : KM yX1_roomNow cX1_roomNow 1 (some .int) 0 := ⟨tt_2 170 (by decide +kernel) rfl, tt_1 4 (by decide +kernel) rfl, by decide⟩
theorem kmX1_row : KM yX1_row cX1_row 1 (some .int) 0 := ⟨tt_2 190 (by decide +kernel) rfl, tt_1 4 (by decide +kernel) rfl, by decide⟩
theorem kmX1_setCell : KM yX1_setCell cX1_setCell 4 none 3 := ⟨tt_2 135 (by decide +kernel) rfl, tt_1 4 (by decide +kernel) rfl, by decide⟩
theorem kmX1_setNumber : KM yX1_setNumber cX1_setNumber 4 none 3 := ⟨tt_2 113 (by decide +kernel) rfl, tt_1 4 (by decide +kernel) rfl, by decide⟩
theorem kmX1_shape : KM yX1_shape cX1_shape 4 (some .int) 2 := ⟨tt_3 11 (by decide +kernel) rfl, tt_1 4 (by decide +kernel) rfl, by decide⟩
theorem kmX1_suits : KM yX1_suits cX1_suits 4 (some .boolean) 3 := ⟨tt_4 113 (by decide +kernel) rfl, tt_1 4 (by decide +kernel) rfl, by decide⟩
theorem kmX1_total : KM yX1_total cX1_total 4 (some .long) 3 := ⟨tt_2 238 (by decide +kernel) rfl, tt_1 4 (by decide +kernel) rfl, by decide⟩
theorem kmX1_totalOf : KM yX1_totalOf cX1_totalOf 11 (some .long) 5 := ⟨tt_3 2 (by decide +kernel) rfl, tt_1 4 (by decide +kernel) rfl, by decide⟩
theorem kmX1_twistNow : KM yX1_twistNow cX1_twistNow 1 (some .long) 0 := ⟨tt_3 49 (by decide +kernel) rfl, tt_1 4 (by decide +kernel) rfl, by decide⟩
theorem kmX1_typeAt : KM yX1_typeAt cX1_typeAt 2 (some .int) 1 := ⟨tt_2 210 (by decide +kernel) rfl, tt_1 4 (by decide +kernel) rfl, by decide⟩
theorem kmX1_warpWithout : KM yX1_warpWithout cX1_warpWithout 5 (some .long) 1 := ⟨tt_3 36 (by decide +kernel) rfl, tt_1 4 (by decide +kernel) rfl, by decide⟩
theorem kmX2_init : KM yX2_init cX2_init 2 none 1 := ⟨tt_1 45 (by decide +kernel) rfl, tt_1 3 (by decide +kernel) rfl, by decide⟩
theorem kmX2_isName : KM yX2_isName cX2_isName 2 (some .boolean) 0 := ⟨tt_2 95 (by decide +kernel) rfl, tt_1 3 (by decide +kernel) rfl, by decide⟩
theorem kmX2_isNumberIn : KM yX2_isNumberIn cX2_isNumberIn 4 (some .boolean) 2 := ⟨tt_2 79 (by decide +kernel) rfl, tt_1 3 (by decide +kernel) rfl, by decide⟩
theorem kmX2_next : KM yX2_next cX2_next 3 none 0 := ⟨tt_1 237 (by decide +kernel) rfl, tt_1 3 (by decide +kernel) rfl, by decide⟩
theorem kmX2_pass : KM yX2_pass cX2_pass 2 (some .boolean) 1 := ⟨tt_2 14 (by decide +kernel) rfl, tt_1 3 (by decide +kernel) rfl, by decide⟩
theorem kmX2_read : KM yX2_read cX2_read 3 (some .boolean) 0 := ⟨tt_1 229 (by decide +kernel) rfl, tt_1 3 (by decide +kernel) rfl, by decide⟩
theorem kmX2_readKind : KM yX2_readKind cX2_readKind 3 (some .boolean) 0 := ⟨tt_2 91 (by decide +kernel) rfl, tt_1 3 (by decide +kernel) rfl, by decide⟩
theorem kmX2_readLine : KM yX2_readLine cX2_readLine 2 (some .boolean) 0 := ⟨tt_2 5 (by decide +kernel) rfl, tt_1 3 (by decide +kernel) rfl, by decide⟩
theorem kmX2_readNumber : KM yX2_readNumber cX2_readNumber 6 (some .boolean) 5 := ⟨tt_2 109 (by decide +kernel) rfl, tt_1 3 (by decide +kernel) rfl, by decide⟩
theorem kmX2_readPlate : KM yX2_readPlate cX2_readPlate 1 (some .boolean) 0 := ⟨tt_2 9 (by decide +kernel) rfl, tt_1 3 (by decide +kernel) rfl, by decide⟩
theorem kmX2_readPly : KM yX2_readPly cX2_readPly 4 (some .boolean) 0 := ⟨tt_2 139 (by decide +kernel) rfl, tt_1 3 (by decide +kernel) rfl, by decide⟩
theorem kmX2_refuse : KM yX2_refuse cX2_refuse 2 (some .boolean) 1 := ⟨tt_2 74 (by decide +kernel) rfl, tt_1 3 (by decide +kernel) rfl, by decide⟩
theorem kmX2_repeats : KM yX2_repeats cX2_repeats 4 (some .boolean) 2 := ⟨tt_2 104 (by decide +kernel) rfl, tt_1 3 (by decide +kernel) rfl, by decide⟩
theorem kmX2_spelledAngle : KM yX2_spelledAngle cX2_spelledAngle 1 (some .int) 0 := ⟨tt_2 143 (by decide +kernel) rfl, tt_1 3 (by decide +kernel) rfl, by decide⟩
theorem kmX2_spells : KM yX2_spells cX2_spells 3 (some .boolean) 1 := ⟨tt_2 18 (by decide +kernel) rfl, tt_1 3 (by decide +kernel) rfl, by decide⟩
theorem kmX2_tokenValue : KM yX2_tokenValue cX2_tokenValue 3 (some .int) 0 := ⟨tt_2 83 (by decide +kernel) rfl, tt_1 3 (by decide +kernel) rfl, by decide⟩
theorem kmX2_toldKind : KM yX2_toldKind cX2_toldKind 2 (some .int) 0 := ⟨tt_2 100 (by decide +kernel) rfl, tt_1 3 (by decide +kernel) rfl, by decide⟩
theorem kmX3_angleAt : KM yX3_angleAt cX3_angleAt 2 (some .int) 2 := ⟨tt_3 59 (by decide +kernel) rfl, tt_1 15 (by decide +kernel) rfl, by decide⟩
theorem kmX3_chosen : KM yX3_chosen cX3_chosen 6 (some .int) 3 := ⟨tt_4 109 (by decide +kernel) rfl, tt_1 15 (by decide +kernel) rfl, by decide⟩
theorem kmX3_farOf : KM yX3_farOf cX3_farOf 2 (some .int) 2 := ⟨tt_2 214 (by decide +kernel) rfl, tt_1 15 (by decide +kernel) rfl, by decide⟩
theorem kmX3_firstRun : KM yX3_firstRun cX3_firstRun 5 (some .int) 3 := ⟨tt_3 65 (by decide +kernel) rfl, tt_1 15 (by decide +kernel) rfl, by decide⟩
theorem kmX3_howMany : KM yX3_howMany cX3_howMany 5 (some .int) 3 := ⟨tt_2 194 (by decide +kernel) rfl, tt_1 15 (by decide +kernel) rfl, by decide⟩
theorem kmX3_inserted : KM yX3_inserted cX3_inserted 7 (some .int) 4 := ⟨tt_5 12 (by decide +kernel) rfl, tt_1 15 (by decide +kernel) rfl, by decide⟩
theorem kmX3_isMirrored : KM yX3_isMirrored cX3_isMirrored 3 (some .boolean) 2 := ⟨tt_3 14 (by decide +kernel) rfl, tt_1 15 (by decide +kernel) rfl, by decide⟩
theorem kmX3_likeNeighbours : KM yX3_likeNeighbours cX3_likeNeighbours 4 (some .int) 2 := ⟨tt_3 72 (by decide +kernel) rfl, tt_1 15 (by decide +kernel) rfl, by decide⟩
theorem kmX3_longestRun : KM yX3_longestRun cX3_longestRun 5 (some .int) 2 := ⟨tt_3 56 (by decide +kernel) rfl, tt_1 15 (by decide +kernel) rfl, by decide⟩
theorem kmX3_lowestLeft : KM yX3_lowestLeft cX3_lowestLeft 5 (some .int) 4 := ⟨tt_4 82 (by decide +kernel) rfl, tt_1 15 (by decide +kernel) rfl, by decide⟩
theorem kmX3_neighbourExchanges : KM yX3_neighbourExchanges cX3_neighbourExchanges 7 (some .int) 3 := ⟨tt_4 79 (by decide +kernel) rfl, tt_1 15 (by decide +kernel) rfl, by decide⟩
theorem kmX3_overturned : KM yX3_overturned cX3_overturned 5 (some .int) 2 := ⟨tt_5 54 (by decide +kernel) rfl, tt_1 15 (by decide +kernel) rfl, by decide⟩
theorem kmX3_sorted : KM yX3_sorted cX3_sorted 6 (some .int) 2 := ⟨tt_3 190 (by decide +kernel) rfl, tt_1 15 (by decide +kernel) rfl, by decide⟩
theorem kmX3_thickOf : KM yX3_thickOf cX3_thickOf 1 (some .int) 1 := ⟨tt_2 217 (by decide +kernel) rfl, tt_1 15 (by decide +kernel) rfl, by decide⟩
theorem kmX3_typeAt : KM yX3_typeAt cX3_typeAt 2 (some .int) 2 := ⟨tt_2 197 (by decide +kernel) rfl, tt_1 15 (by decide +kernel) rfl, by decide⟩
theorem kmX3_unlikePlaces : KM yX3_unlikePlaces cX3_unlikePlaces 5 (some .int) 3 := ⟨tt_4 46 (by decide +kernel) rfl, tt_1 15 (by decide +kernel) rfl, by decide⟩
theorem kmX3_whirled : KM yX3_whirled cX3_whirled 7 (some .int) 3 := ⟨tt_5 44 (by decide +kernel) rfl, tt_1 15 (by decide +kernel) rfl, by decide⟩
theorem kmX3_with : KM yX3_with cX3_with 3 (some .int) 3 := ⟨tt_4 236 (by decide +kernel) rfl, tt_1 15 (by decide +kernel) rfl, by decide⟩
theorem kmX4_along : KM yX4_along cX4_along 2 (some .long) 1 := ⟨tt_3 145 (by decide +kernel) rfl, tt_1 7 (by decide +kernel) rfl, by decide⟩
theorem kmX4_bound : KM yX4_bound cX4_bound 3 (some .long) 2 := ⟨tt_3 156 (by decide +kernel) rfl, tt_1 7 (by decide +kernel) rfl, by decide⟩
theorem kmX4_cellAt : KM yX4_cellAt cX4_cellAt 3 (some .long) 2 := ⟨tt_3 100 (by decide +kernel) rfl, tt_1 7 (by decide +kernel) rfl, by decide⟩
theorem kmX4_cofactor : KM yX4_cofactor cX4_cofactor 7 (some .long) 2 := ⟨tt_3 96 (by decide +kernel) rfl, tt_1 7 (by decide +kernel) rfl, by decide⟩
theorem kmX4_commonDivisor : KM yX4_commonDivisor cX4_commonDivisor 11 (some .long) 2 := ⟨tt_3 121 (by decide +kernel) rfl, tt_1 7 (by decide +kernel) rfl, by decide⟩
theorem kmX4_fewestLost : KM yX4_fewestLost cX4_fewestLost 7 (some .int) 4 := ⟨tt_4 199 (by decide +kernel) rfl, tt_1 7 (by decide +kernel) rfl, by decide⟩
theorem kmX4_greatestTimes : KM yX4_greatestTimes cX4_greatestTimes 8 (some .int) 2 := ⟨tt_3 169 (by decide +kernel) rfl, tt_1 7 (by decide +kernel) rfl, by decide⟩
theorem kmX4_inLowestTerms : KM yX4_inLowestTerms cX4_inLowestTerms 9 (some .long) 3 := ⟨tt_3 117 (by decide +kernel) rfl, tt_1 7 (by decide +kernel) rfl, by decide⟩
theorem kmX4_init : KM yX4_init cX4_init 1 none 0 := ⟨tt_1 175 (by decide +kernel) rfl, tt_1 7 (by decide +kernel) rfl, by decide⟩
theorem kmX4_part : KM yX4_part cX4_part 2 (some .long) 1 := ⟨tt_3 114 (by decide +kernel) rfl, tt_1 7 (by decide +kernel) rfl, by decide⟩
theorem kmX4_solve : KM yX4_solve cX4_solve 5 none 3 := ⟨tt_3 109 (by decide +kernel) rfl, tt_1 7 (by decide +kernel) rfl, by decide⟩
theorem kmX4_strainedAt : KM yX4_strainedAt cX4_strainedAt 3 (some .long) 2 := ⟨tt_3 139 (by decide +kernel) rfl, tt_1 7 (by decide +kernel) rfl, by decide⟩
theorem kmX4_take : KM yX4_take cX4_take 5 none 3 := ⟨tt_3 91 (by decide +kernel) rfl, tt_1 7 (by decide +kernel) rfl, by decide⟩
theorem kmX4_weakest : KM yX4_weakest cX4_weakest 6 (some .int) 1 := ⟨tt_3 134 (by decide +kernel) rfl, tt_1 7 (by decide +kernel) rfl, by decide⟩
theorem kmX4_withinLimits : KM yX4_withinLimits cX4_withinLimits 7 (some .boolean) 5 := ⟨tt_4 205 (by decide +kernel) rfl, tt_1 7 (by decide +kernel) rfl, by decide⟩
theorem kmX5_add : KM yX5_add cX5_add 3 none 1 := ⟨tt_1 217 (by decide +kernel) rfl, tt_1 2 (by decide +kernel) rfl, by decide⟩
theorem kmX5_at : KM yX5_at cX5_at 2 (some .int) 1 := ⟨tt_2 32 (by decide +kernel) rfl, tt_1 2 (by decide +kernel) rfl, by decide⟩
theorem kmX5_classAt : KM yX5_classAt cX5_classAt 3 (some .int) 1 := ⟨tt_2 1 (by decide +kernel) rfl, tt_1 2 (by decide +kernel) rfl, by decide⟩
theorem kmX5_init : KM yX5_init cX5_init 1 none 0 := ⟨tt_1 30 (by decide +kernel) rfl, tt_1 2 (by decide +kernel) rfl, by decide⟩
theorem kmX6_explore : KM yX6_explore cX6_explore 6 none 3 := ⟨tt_4 135 (by decide +kernel) rfl, tt_1 6 (by decide +kernel) rfl, by decide⟩
theorem kmX6_goal : KM yX6_goal cX6_goal 3 (some .int) 0 := ⟨tt_4 155 (by decide +kernel) rfl, tt_1 6 (by decide +kernel) rfl, by decide⟩
theorem kmX6_init : KM yX6_init cX6_init 1 none 0 := ⟨tt_1 159 (by decide +kernel) rfl, tt_1 6 (by decide +kernel) rfl, by decide⟩
theorem kmX6_isNearerGoal : KM yX6_isNearerGoal cX6_isNearerGoal 4 (some .boolean) 2 := ⟨tt_4 159 (by decide +kernel) rfl, tt_1 6 (by decide +kernel) rfl, by decide⟩
theorem kmX6_isThin : KM yX6_isThin cX6_isThin 4 (some .boolean) 3 := ⟨tt_4 104 (by decide +kernel) rfl, tt_1 6 (by decide +kernel) rfl, by decide⟩
theorem kmX6_leads : KM yX6_leads cX6_leads 3 (some .boolean) 2 := ⟨tt_4 147 (by decide +kernel) rfl, tt_1 6 (by decide +kernel) rfl, by decide⟩
theorem kmX6_leastAhead : KM yX6_leastAhead cX6_leastAhead 3 (some .int) 1 := ⟨tt_4 187 (by decide +kernel) rfl, tt_1 6 (by decide +kernel) rfl, by decide⟩
theorem kmX6_leastDepthAbove : KM yX6_leastDepthAbove cX6_leastDepthAbove 4 (some .int) 1 := ⟨tt_4 143 (by decide +kernel) rfl, tt_1 6 (by decide +kernel) rfl, by decide⟩
theorem kmX6_onTheWay : KM yX6_onTheWay cX6_onTheWay 4 (some .int) 1 := ⟨tt_4 182 (by decide +kernel) rfl, tt_1 6 (by decide +kernel) rfl, by decide⟩
theorem kmX6_steps : KM yX6_steps cX6_steps 2 (some .int) 1 := ⟨tt_4 151 (by decide +kernel) rfl, tt_1 6 (by decide +kernel) rfl, by decide⟩
theorem kmX6_thinnerSet : KM yX6_thinnerSet cX6_thinnerSet 7 (some .int) 4 := ⟨tt_4 124 (by decide +kernel) rfl, tt_1 6 (by decide +kernel) rfl, by decide⟩
theorem kmX6_thinnerSets : KM yX6_thinnerSets cX6_thinnerSets 6 (some .int) 3 := ⟨tt_4 96 (by decide +kernel) rfl, tt_1 6 (by decide +kernel) rfl, by decide⟩
theorem kmX7_areLoads : KM yX7_areLoads cX7_areLoads 4 (some .boolean) 3 := ⟨tt_3 80 (by decide +kernel) rfl, tt_1 1 (by decide +kernel) rfl, by decide⟩
theorem kmX7_frailSet : KM yX7_frailSet cX7_frailSet 4 (some .int) 3 := ⟨tt_4 195 (by decide +kernel) rfl, tt_1 1 (by decide +kernel) rfl, by decide⟩
theorem kmX7_imagesBar : KM yX7_imagesBar cX7_imagesBar 3 (some .int) 2 := ⟨tt_5 88 (by decide +kernel) rfl, tt_1 1 (by decide +kernel) rfl, by decide⟩
theorem kmX7_init : KM yX7_init cX7_init 2 none 0 := ⟨tt_1 22 (by decide +kernel) rfl, tt_1 1 (by decide +kernel) rfl, by decide⟩
theorem kmX7_isAngle : KM yX7_isAngle cX7_isAngle 1 (some .boolean) 1 := ⟨tt_2 224 (by decide +kernel) rfl, tt_1 1 (by decide +kernel) rfl, by decide⟩
theorem kmX7_isAxis : KM yX7_isAxis cX7_isAxis 1 (some .boolean) 1 := ⟨tt_2 233 (by decide +kernel) rfl, tt_1 1 (by decide +kernel) rfl, by decide⟩
theorem kmX7_isFlat : KM yX7_isFlat cX7_isFlat 1 (some .boolean) 0 := ⟨tt_3 104 (by decide +kernel) rfl, tt_1 1 (by decide +kernel) rfl, by decide⟩
theorem kmX7_isImage : KM yX7_isImage cX7_isImage 2 (some .boolean) 1 := ⟨tt_5 72 (by decide +kernel) rfl, tt_1 1 (by decide +kernel) rfl, by decide⟩
theorem kmX7_isKind : KM yX7_isKind cX7_isKind 2 (some .boolean) 1 := ⟨tt_2 182 (by decide +kernel) rfl, tt_1 1 (by decide +kernel) rfl, by decide⟩
theorem kmX7_isLoad : KM yX7_isLoad cX7_isLoad 1 (some .boolean) 1 := ⟨tt_3 83 (by decide +kernel) rfl, tt_1 1 (by decide +kernel) rfl, by decide⟩
theorem kmX7_isMask : KM yX7_isMask cX7_isMask 2 (some .boolean) 1 := ⟨tt_3 181 (by decide +kernel) rfl, tt_1 1 (by decide +kernel) rfl, by decide⟩
theorem kmX7_isPly : KM yX7_isPly cX7_isPly 2 (some .boolean) 1 := ⟨tt_2 206 (by decide +kernel) rfl, tt_1 1 (by decide +kernel) rfl, by decide⟩
theorem kmX7_isSet : KM yX7_isSet cX7_isSet 2 (some .boolean) 1 := ⟨tt_4 173 (by decide +kernel) rfl, tt_1 1 (by decide +kernel) rfl, by decide⟩
theorem kmX7_isStride : KM yX7_isStride cX7_isStride 1 (some .boolean) 1 := ⟨tt_4 131 (by decide +kernel) rfl, tt_1 1 (by decide +kernel) rfl, by decide⟩
theorem kmX7_leftWithout : KM yX7_leftWithout cX7_leftWithout 4 (some .long) 2 := ⟨tt_4 216 (by decide +kernel) rfl, tt_1 1 (by decide +kernel) rfl, by decide⟩
theorem kmX7_relay : KM yX7_relay cX7_relay 3 (some .int) 1 := ⟨tt_5 33 (by decide +kernel) rfl, tt_1 1 (by decide +kernel) rfl, by decide⟩
theorem kmX7_stayWith : KM yX7_stayWith cX7_stayWith 2 none 1 := ⟨tt_5 20 (by decide +kernel) rfl, tt_1 1 (by decide +kernel) rfl, by decide⟩
theorem kmX7_yielding : KM yX7_yielding cX7_yielding 7 (some .long) 6 := ⟨tt_3 87 (by decide +kernel) rfl, tt_1 1 (by decide +kernel) rfl, by decide⟩
theorem kmX8_allBits : KM yX8_allBits cX8_allBits 1 (some .int) 0 := ⟨tt_7 144 (by decide +kernel) rfl, tt_1 8 (by decide +kernel) rfl, by decide⟩
theorem kmX8_along : KM yX8_along cX8_along 5 (some .long) 1 := ⟨tt_6 218 (by decide +kernel) rfl, tt_1 8 (by decide +kernel) rfl, by decide⟩
theorem kmX8_areLoads : KM yX8_areLoads cX8_areLoads 3 (some .boolean) 3 := ⟨tt_6 184 (by decide +kernel) rfl, tt_1 8 (by decide +kernel) rfl, by decide⟩
theorem kmX8_becomesRow : KM yX8_becomesRow cX8_becomesRow 3 (some .int) 0 := ⟨tt_8 6 (by decide +kernel) rfl, tt_1 8 (by decide +kernel) rfl, by decide⟩
theorem kmX8_common : KM yX8_common cX8_common 10 (some .long) 2 := ⟨tt_6 205 (by decide +kernel) rfl, tt_1 8 (by decide +kernel) rfl, by decide⟩
theorem kmX8_commonOf : KM yX8_commonOf cX8_commonOf 6 (some .int) 2 := ⟨tt_7 179 (by decide +kernel) rfl, tt_1 8 (by decide +kernel) rfl, by decide⟩
theorem kmX8_detOf : KM yX8_detOf cX8_detOf 2 (some .long) 1 := ⟨tt_6 194 (by decide +kernel) rfl, tt_1 8 (by decide +kernel) rfl, by decide⟩
theorem kmX8_entry : KM yX8_entry cX8_entry 8 (some .long) 3 := ⟨tt_6 126 (by decide +kernel) rfl, tt_1 8 (by decide +kernel) rfl, by decide⟩
theorem kmX8_farFromPlate : KM yX8_farFromPlate cX8_farFromPlate 3 (some .int) 0 := ⟨tt_7 56 (by decide +kernel) rfl, tt_1 8 (by decide +kernel) rfl, by decide⟩
theorem kmX8_faults : KM yX8_faults cX8_faults 2 none 1 := ⟨tt_6 38 (by decide +kernel) rfl, tt_1 8 (by decide +kernel) rfl, by decide⟩
theorem kmX8_finds : KM yX8_finds cX8_finds 4 none 1 := ⟨tt_7 60 (by decide +kernel) rfl, tt_1 8 (by decide +kernel) rfl, by decide⟩
theorem kmX8_goal : KM yX8_goal cX8_goal 4 (some .int) 0 := ⟨tt_7 152 (by decide +kernel) rfl, tt_1 8 (by decide +kernel) rfl, by decide⟩
theorem kmX8_goes : KM yX8_goes cX8_goes 5 (some .int) 3 := ⟨tt_7 40 (by decide +kernel) rfl, tt_1 8 (by decide +kernel) rfl, by decide⟩
theorem kmX8_goesBack : KM yX8_goesBack cX8_goesBack 3 none 1 := ⟨tt_8 35 (by decide +kernel) rfl, tt_1 8 (by decide +kernel) rfl, by decide⟩
theorem kmX8_has : KM yX8_has cX8_has 2 (some .boolean) 2 := ⟨tt_6 122 (by decide +kernel) rfl, tt_1 8 (by decide +kernel) rfl, by decide⟩
theorem kmX8_in : KM yX8_in cX8_in 6 (some .boolean) 3 := ⟨tt_6 1 (by decide +kernel) rfl, tt_1 8 (by decide +kernel) rfl, by decide⟩
theorem kmX8_init : KM yX8_init cX8_init 1 none 0 := ⟨tt_5 118 (by decide +kernel) rfl, tt_1 8 (by decide +kernel) rfl, by decide⟩
theorem kmX8_is : KM yX8_is cX8_is 1 (some .boolean) 0 := ⟨tt_6 109 (by decide +kernel) rfl, tt_1 8 (by decide +kernel) rfl, by decide⟩
theorem kmX8_isAsked : KM yX8_isAsked cX8_isAsked 2 (some .boolean) 1 := ⟨tt_7 32 (by decide +kernel) rfl, tt_1 8 (by decide +kernel) rfl, by decide⟩
theorem kmX8_isAt : KM yX8_isAt cX8_isAt 3 (some .boolean) 2 := ⟨tt_6 13 (by decide +kernel) rfl, tt_1 8 (by decide +kernel) rfl, by decide⟩
theorem kmX8_isBalanced : KM yX8_isBalanced cX8_isBalanced 4 (some .boolean) 0 := ⟨tt_6 147 (by decide +kernel) rfl, tt_1 8 (by decide +kernel) rfl, by decide⟩
theorem kmX8_isBest : KM yX8_isBest cX8_isBest 3 (some .boolean) 2 := ⟨tt_7 88 (by decide +kernel) rfl, tt_1 8 (by decide +kernel) rfl, by decide⟩
theorem kmX8_isFull : KM yX8_isFull cX8_isFull 1 (some .boolean) 0 := ⟨tt_7 214 (by decide +kernel) rfl, tt_1 8 (by decide +kernel) rfl, by decide⟩
theorem kmX8_isImage : KM yX8_isImage cX8_isImage 1 (some .boolean) 1 := ⟨tt_7 175 (by decide +kernel) rfl, tt_1 8 (by decide +kernel) rfl, by decide⟩
theorem kmX8_isKind : KM yX8_isKind cX8_isKind 2 (some .boolean) 1 := ⟨tt_6 86 (by decide +kernel) rfl, tt_1 8 (by decide +kernel) rfl, by decide⟩
theorem kmX8_isMask : KM yX8_isMask cX8_isMask 1 (some .boolean) 1 := ⟨tt_7 35 (by decide +kernel) rfl, tt_1 8 (by decide +kernel) rfl, by decide⟩
theorem kmX8_isMirrored : KM yX8_isMirrored cX8_isMirrored 2 (some .boolean) 0 := ⟨tt_6 134 (by decide +kernel) rfl, tt_1 8 (by decide +kernel) rfl, by decide⟩
theorem kmX8_isPly : KM yX8_isPly cX8_isPly 2 (some .boolean) 1 := ⟨tt_6 95 (by decide +kernel) rfl, tt_1 8 (by decide +kernel) rfl, by decide⟩
theorem kmX8_isSo : KM yX8_isSo cX8_isSo 2 (some .boolean) 1 := ⟨tt_7 48 (by decide +kernel) rfl, tt_1 8 (by decide +kernel) rfl, by decide⟩
theorem kmX8_isStep : KM yX8_isStep cX8_isStep 4 (some .boolean) 3 := ⟨tt_7 148 (by decide +kernel) rfl, tt_1 8 (by decide +kernel) rfl, by decide⟩
theorem kmX8_isThin : KM yX8_isThin cX8_isThin 3 (some .boolean) 2 := ⟨tt_7 120 (by decide +kernel) rfl, tt_1 8 (by decide +kernel) rfl, by decide⟩
theorem kmX8_isWay : KM yX8_isWay cX8_isWay 3 (some .boolean) 2 := ⟨tt_7 136 (by decide +kernel) rfl, tt_1 8 (by decide +kernel) rfl, by decide⟩
theorem kmX8_isWithin : KM yX8_isWithin cX8_isWithin 8 (some .boolean) 3 := ⟨tt_6 235 (by decide +kernel) rfl, tt_1 8 (by decide +kernel) rfl, by decide⟩
theorem kmX8_isWord : KM yX8_isWord cX8_isWord 4 (some .boolean) 1 := ⟨tt_6 28 (by decide +kernel) rfl, tt_1 8 (by decide +kernel) rfl, by decide⟩
theorem kmX8_keeps : KM yX8_keeps cX8_keeps 2 none 0 := ⟨tt_7 218 (by decide +kernel) rfl, tt_1 8 (by decide +kernel) rfl, by decide⟩
theorem kmX8_kindHere : KM yX8_kindHere cX8_kindHere 4 (some .int) 0 := ⟨tt_6 57 (by decide +kernel) rfl, tt_1 8 (by decide +kernel) rfl, by decide⟩
theorem kmX8_laysPlate : KM yX8_laysPlate cX8_laysPlate 2 none 0 := ⟨tt_6 115 (by decide +kernel) rfl, tt_1 8 (by decide +kernel) rfl, by decide⟩
theorem kmX8_laysSet : KM yX8_laysSet cX8_laysSet 3 none 1 := ⟨tt_7 124 (by decide +kernel) rfl, tt_1 8 (by decide +kernel) rfl, by decide⟩
theorem kmX8_laysSteps : KM yX8_laysSteps cX8_laysSteps 6 none 2 := ⟨tt_7 140 (by decide +kernel) rfl, tt_1 8 (by decide +kernel) rfl, by decide⟩
theorem kmX8_laysStrains : KM yX8_laysStrains cX8_laysStrains 9 none 4 := ⟨tt_6 190 (by decide +kernel) rfl, tt_1 8 (by decide +kernel) rfl, by decide⟩
theorem kmX8_likesHere : KM yX8_likesHere cX8_likesHere 3 (some .int) 0 := ⟨tt_6 173 (by decide +kernel) rfl, tt_1 8 (by decide +kernel) rfl, by decide⟩
theorem kmX8_limitOf : KM yX8_limitOf cX8_limitOf 2 (some .long) 1 := ⟨tt_6 222 (by decide +kernel) rfl, tt_1 8 (by decide +kernel) rfl, by decide⟩
theorem kmX8_longestRun : KM yX8_longestRun cX8_longestRun 4 (some .int) 0 := ⟨tt_6 164 (by decide +kernel) rfl, tt_1 8 (by decide +kernel) rfl, by decide⟩
theorem kmX8_lostBy : KM yX8_lostBy cX8_lostBy 3 (some .long) 2 := ⟨tt_7 20 (by decide +kernel) rfl, tt_1 8 (by decide +kernel) rfl, by decide⟩
theorem kmX8_manyIn : KM yX8_manyIn cX8_manyIn 2 (some .int) 1 := ⟨tt_7 183 (by decide +kernel) rfl, tt_1 8 (by decide +kernel) rfl, by decide⟩
theorem kmX8_minor : KM yX8_minor cX8_minor 10 (some .long) 3 := ⟨tt_6 198 (by decide +kernel) rfl, tt_1 8 (by decide +kernel) rfl, by decide⟩
theorem kmX8_next : KM yX8_next cX8_next 1 none 0 := ⟨tt_6 9 (by decide +kernel) rfl, tt_1 8 (by decide +kernel) rfl, by decide⟩
theorem kmX8_notes : KM yX8_notes cX8_notes 4 none 0 := ⟨tt_7 68 (by decide +kernel) rfl, tt_1 8 (by decide +kernel) rfl, by decide⟩
theorem kmX8_part : KM yX8_part cX8_part 7 (some .long) 3 := ⟨tt_6 202 (by decide +kernel) rfl, tt_1 8 (by decide +kernel) rfl, by decide⟩
theorem kmX8_passes : KM yX8_passes cX8_passes 2 none 1 := ⟨tt_6 34 (by decide +kernel) rfl, tt_1 8 (by decide +kernel) rfl, by decide⟩
theorem kmX8_places : KM yX8_places cX8_places 5 none 2 := ⟨tt_7 44 (by decide +kernel) rfl, tt_1 8 (by decide +kernel) rfl, by decide⟩
theorem kmX8_reads : KM yX8_reads cX8_reads 4 (some .int) 2 := ⟨tt_6 47 (by decide +kernel) rfl, tt_1 8 (by decide +kernel) rfl, by decide⟩
theorem kmX8_readsAll : KM yX8_readsAll cX8_readsAll 1 none 0 := ⟨tt_6 19 (by decide +kernel) rfl, tt_1 8 (by decide +kernel) rfl, by decide⟩
theorem kmX8_readsKind : KM yX8_readsKind cX8_readsKind 10 none 0 := ⟨tt_6 52 (by decide +kernel) rfl, tt_1 8 (by decide +kernel) rfl, by decide⟩
theorem kmX8_readsNamed : KM yX8_readsNamed cX8_readsNamed 4 (some .int) 3 := ⟨tt_6 43 (by decide +kernel) rfl, tt_1 8 (by decide +kernel) rfl, by decide⟩
theorem kmX8_readsPlate : KM yX8_readsPlate cX8_readsPlate 1 none 0 := ⟨tt_6 23 (by decide +kernel) rfl, tt_1 8 (by decide +kernel) rfl, by decide⟩
theorem kmX8_readsPly : KM yX8_readsPly cX8_readsPly 3 none 0 := ⟨tt_6 66 (by decide +kernel) rfl, tt_1 8 (by decide +kernel) rfl, by decide⟩
theorem kmX8_stays : KM yX8_stays cX8_stays 3 none 1 := ⟨tt_7 234 (by decide +kernel) rfl, tt_1 8 (by decide +kernel) rfl, by decide⟩
theorem kmX8_strained : KM yX8_strained cX8_strained 7 (some .long) 6 := ⟨tt_6 181 (by decide +kernel) rfl, tt_1 8 (by decide +kernel) rfl, by decide⟩
theorem kmX8_sum : KM yX8_sum cX8_sum 10 (some .long) 3 := ⟨tt_6 119 (by decide +kernel) rfl, tt_1 8 (by decide +kernel) rfl, by decide⟩
theorem kmX8_thinOf : KM yX8_thinOf cX8_thinOf 6 (some .int) 3 := ⟨tt_7 116 (by decide +kernel) rfl, tt_1 8 (by decide +kernel) rfl, by decide⟩
theorem kmX8_twistHere : KM yX8_twistHere cX8_twistHere 1 (some .long) 0 := ⟨tt_6 143 (by decide +kernel) rfl, tt_1 8 (by decide +kernel) rfl, by decide⟩
theorem kmX8_typeIn : KM yX8_typeIn cX8_typeIn 3 (some .int) 2 := ⟨tt_7 187 (by decide +kernel) rfl, tt_1 8 (by decide +kernel) rfl, by decide⟩
theorem kmX8_upsetAt : KM yX8_upsetAt cX8_upsetAt 3 (some .int) 1 := ⟨tt_7 203 (by decide +kernel) rfl, tt_1 8 (by decide +kernel) rfl, by decide⟩
theorem kmX8_valueBy : KM yX8_valueBy cX8_valueBy 2 (some .long) 1 := ⟨tt_7 64 (by decide +kernel) rfl, tt_1 8 (by decide +kernel) rfl, by decide⟩
theorem kmX8_visits : KM yX8_visits cX8_visits 1 none 0 := ⟨tt_7 52 (by decide +kernel) rfl, tt_1 8 (by decide +kernel) rfl, by decide⟩
theorem kmX8_warpHere : KM yX8_warpHere cX8_warpHere 5 (some .long) 0 := ⟨tt_6 138 (by decide +kernel) rfl, tt_1 8 (by decide +kernel) rfl, by decide⟩
theorem kmX8_weakest : KM yX8_weakest cX8_weakest 6 (some .int) 3 := ⟨tt_7 3 (by decide +kernel) rfl, tt_1 8 (by decide +kernel) rfl, by decide⟩
theorem kmX8_whirled : KM yX8_whirled cX8_whirled 4 (some .int) 2 := ⟨tt_7 206 (by decide +kernel) rfl, tt_1 8 (by decide +kernel) rfl, by decide⟩
theorem kmX8_why : KM yX8_why cX8_why 3 (some .int) 2 := ⟨tt_7 172 (by decide +kernel) rfl, tt_1 8 (by decide +kernel) rfl, by decide⟩
theorem ksJ0_checkIndex_df160 : Cond.static yJ0_checkIndex_df160 ∈ Tw := tt_2 45 (by decide +kernel) rfl
theorem ksJ1_charAt_3b067 : Cond.static yJ1_charAt_3b067 ∈ Tw := tt_2 42 (by decide +kernel) rfl
theorem ksJ3_checkIndex_8e157 : Cond.static yJ3_checkIndex_8e157 ∈ Tw := tt_2 50 (by decide +kernel) rfl
theorem ksJ6_bitCount_0f7a4 : Cond.static yJ6_bitCount_0f7a4 ∈ Tw := tt_4 84 (by decide +kernel) rfl
theorem ksJ7_fill_53178 : Cond.static yJ7_fill_53178 ∈ Tw := tt_4 138 (by decide +kernel) rfl
theorem ksJ7_fill_d0a16 : Cond.static yJ7_fill_d0a16 ∈ Tw := tt_4 61 (by decide +kernel) rfl
theorem ksJ9_abs_067f4 : Cond.static yJ9_abs_067f4 ∈ Tw := tt_3 39 (by decide +kernel) rfl
theorem ksJ9_max_7cf53 : Cond.static yJ9_max_7cf53 ∈ Tw := tt_3 61 (by decide +kernel) rfl
theorem ksJ9_min_7cf53 : Cond.static yJ9_min_7cf53 ∈ Tw := tt_2 85 (by decide +kernel) rfl
theorem ksJ9_min_f86c9 : Cond.static yJ9_min_f86c9 ∈ Tw := tt_3 172 (by decide +kernel) rfl
theorem ksX3_angleAt : Cond.static yX3_angleAt ∈ Tw := tt_3 58 (by decide +kernel) rfl
theorem ksX3_chosen : Cond.static yX3_chosen ∈ Tw := tt_4 108 (by decide +kernel) rfl
theorem ksX3_farOf : Cond.static yX3_farOf ∈ Tw := tt_2 213 (by decide +kernel) rfl
theorem ksX3_firstRun : Cond.static yX3_firstRun ∈ Tw := tt_3 64 (by decide +kernel) rfl
theorem ksX3_howMany : Cond.static yX3_howMany ∈ Tw := tt_2 193 (by decide +kernel) rfl
theorem ksX3_inserted : Cond.static yX3_inserted ∈ Tw := tt_5 11 (by decide +kernel) rfl
theorem ksX3_isMirrored : Cond.static yX3_isMirrored ∈ Tw := tt_3 13 (by decide +kernel) rfl
theorem ksX3_likeNeighbours : Cond.static yX3_likeNeighbours ∈ Tw := tt_3 71 (by decide +kernel) rfl
theorem ksX3_longestRun : Cond.static yX3_longestRun ∈ Tw := tt_3 55 (by decide +kernel) rfl
theorem ksX3_lowestLeft : Cond.static yX3_lowestLeft ∈ Tw := tt_4 81 (by decide +kernel) rfl
theorem ksX3_neighbourExchanges : Cond.static yX3_neighbourExchanges ∈ Tw := tt_4 78 (by decide +kernel) rfl
theorem ksX3_overturned : Cond.static yX3_overturned ∈ Tw := tt_5 53 (by decide +kernel) rfl
theorem ksX3_sorted : Cond.static yX3_sorted ∈ Tw := tt_3 189 (by decide +kernel) rfl
theorem ksX3_thickOf : Cond.static yX3_thickOf ∈ Tw := tt_2 216 (by decide +kernel) rfl
theorem ksX3_typeAt : Cond.static yX3_typeAt ∈ Tw := tt_2 196 (by decide +kernel) rfl
theorem ksX3_unlikePlaces : Cond.static yX3_unlikePlaces ∈ Tw := tt_4 45 (by decide +kernel) rfl
theorem ksX3_whirled : Cond.static yX3_whirled ∈ Tw := tt_5 43 (by decide +kernel) rfl
theorem ksX3_with : Cond.static yX3_with ∈ Tw := tt_4 235 (by decide +kernel) rfl
theorem ksX4_commonDivisor : Cond.static yX4_commonDivisor ∈ Tw := tt_3 120 (by decide +kernel) rfl
theorem ksX4_inLowestTerms : Cond.static yX4_inLowestTerms ∈ Tw := tt_3 116 (by decide +kernel) rfl
theorem ksX6_isThin : Cond.static yX6_isThin ∈ Tw := tt_4 103 (by decide +kernel) rfl
theorem ksX7_isAngle : Cond.static yX7_isAngle ∈ Tw := tt_2 223 (by decide +kernel) rfl
theorem ksX7_isAxis : Cond.static yX7_isAxis ∈ Tw := tt_2 232 (by decide +kernel) rfl
theorem ksX7_isLoad : Cond.static yX7_isLoad ∈ Tw := tt_3 82 (by decide +kernel) rfl
theorem ksX7_isStride : Cond.static yX7_isStride ∈ Tw := tt_4 130 (by decide +kernel) rfl
theorem ksX8_areLoads : Cond.static yX8_areLoads ∈ Tw := tt_6 183 (by decide +kernel) rfl
theorem ksX8_common : Cond.static yX8_common ∈ Tw := tt_6 204 (by decide +kernel) rfl
theorem ksX8_has : Cond.static yX8_has ∈ Tw := tt_6 121 (by decide +kernel) rfl
theorem ksX8_in : Cond.static yX8_in ∈ Tw := tt_6 0 (by decide +kernel) rfl
theorem ksX8_isImage : Cond.static yX8_isImage ∈ Tw := tt_7 174 (by decide +kernel) rfl
theorem ksX8_isMask : Cond.static yX8_isMask ∈ Tw := tt_7 34 (by decide +kernel) rfl
theorem ksX8_part : Cond.static yX8_part ∈ Tw := tt_6 201 (by decide +kernel) rfl
theorem ksX8_whirled : Cond.static yX8_whirled ∈ Tw := tt_7 205 (by decide +kernel) rfl
theorem kvJ0_charAt_5068e : KV yJ0_charAt_5068e := ⟨tt_2 34 (by decide +kernel) rfl, tt_2 35 (by decide +kernel) rfl⟩
theorem kvJ0_coder_7d493 : KV yJ0_coder_7d493 := ⟨tt_2 24 (by decide +kernel) rfl, tt_2 25 (by decide +kernel) rfl⟩
theorem kvJ0_isLatin1_aae02 : KV yJ0_isLatin1_aae02 := ⟨tt_2 38 (by decide +kernel) rfl, tt_2 39 (by decide +kernel) rfl⟩
theorem kvJ0_length_8abf5 : KV yJ0_length_8abf5 := ⟨tt_2 20 (by decide +kernel) rfl, tt_2 21 (by decide +kernel) rfl⟩
theorem kvX0_bendKey : KV yX0_bendKey := ⟨tt_4 65 (by decide +kernel) rfl, tp_of 72 (by decide +kernel) rfl⟩
theorem kvX0_bestIndex : KV yX0_bestIndex := ⟨tt_4 21 (by decide +kernel) rfl, tp_of 68 (by decide +kernel) rfl⟩
theorem kvX0_find : KV yX0_find := ⟨tt_3 239 (by decide +kernel) rfl, tp_of 65 (by decide +kernel) rfl⟩
theorem kvX0_forget : KV yX0_forget := ⟨tt_2 157 (by decide +kernel) rfl, tp_of 25 (by decide +kernel) rfl⟩
theorem kvX0_howMany : KV yX0_howMany := ⟨tt_3 223 (by decide +kernel) rfl, tp_of 62 (by decide +kernel) rfl⟩
theorem kvX0_isAmong : KV yX0_isAmong := ⟨tt_3 231 (by decide +kernel) rfl, tp_of 64 (by decide +kernel) rfl⟩
theorem kvX0_isNew : KV yX0_isNew := ⟨tt_4 70 (by decide +kernel) rfl, tp_of 73 (by decide +kernel) rfl⟩
theorem kvX0_lay : KV yX0_lay := ⟨tt_3 200 (by decide +kernel) rfl, tp_of 58 (by decide +kernel) rfl⟩
theorem kvX0_merit : KV yX0_merit := ⟨tt_4 25 (by decide +kernel) rfl, tp_of 69 (by decide +kernel) rfl⟩
theorem kvX0_mostRows : KV yX0_mostRows := ⟨tt_3 194 (by decide +kernel) rfl, tp_of 57 (by decide +kernel) rfl⟩
theorem kvX0_nearestIndex : KV yX0_nearestIndex := ⟨tt_4 42 (by decide +kernel) rfl, tp_of 70 (by decide +kernel) rfl⟩
theorem kvX0_placeAt : KV yX0_placeAt := ⟨tt_3 227 (by decide +kernel) rfl, tp_of 63 (by decide +kernel) rfl⟩
theorem kvX0_placeOf : KV yX0_placeOf := ⟨tt_4 12 (by decide +kernel) rfl, tp_of 67 (by decide +kernel) rfl⟩
theorem kvX0_prepare : KV yX0_prepare := ⟨tt_3 184 (by decide +kernel) rfl, tp_of 56 (by decide +kernel) rfl⟩
theorem kvX0_rowAt : KV yX0_rowAt := ⟨tt_4 3 (by decide +kernel) rfl, tp_of 66 (by decide +kernel) rfl⟩
theorem kvX0_shapeOf : KV yX0_shapeOf := ⟨tt_3 204 (by decide +kernel) rfl, tp_of 59 (by decide +kernel) rfl⟩
theorem kvX0_store : KV yX0_store := ⟨tt_3 211 (by decide +kernel) rfl, tp_of 60 (by decide +kernel) rfl⟩
theorem kvX0_unlikeBends : KV yX0_unlikeBends := ⟨tt_4 58 (by decide +kernel) rfl, tp_of 71 (by decide +kernel) rfl⟩
theorem kvX1_act : KV yX1_act := ⟨tt_4 239 (by decide +kernel) rfl, tp_of 91 (by decide +kernel) rfl⟩
theorem kvX1_allPlies : KV yX1_allPlies := ⟨tt_4 99 (by decide +kernel) rfl, tp_of 75 (by decide +kernel) rfl⟩
theorem kvX1_cellAt : KV yX1_cellAt := ⟨tt_3 219 (by decide +kernel) rfl, tp_of 61 (by decide +kernel) rfl⟩
theorem kvX1_clear : KV yX1_clear := ⟨tt_1 232 (by decide +kernel) rfl, tp_of 2 (by decide +kernel) rfl⟩
theorem kvX1_copy : KV yX1_copy := ⟨tt_2 150 (by decide +kernel) rfl, tp_of 24 (by decide +kernel) rfl⟩
theorem kvX1_fillCells : KV yX1_fillCells := ⟨tt_2 120 (by decide +kernel) rfl, tp_of 19 (by decide +kernel) rfl⟩
theorem kvX1_isBalanced : KV yX1_isBalanced := ⟨tt_3 27 (by decide +kernel) rfl, tp_of 38 (by decide +kernel) rfl⟩
theorem kvX1_isFull : KV yX1_isFull := ⟨tt_4 232 (by decide +kernel) rfl, tp_of 90 (by decide +kernel) rfl⟩
theorem kvX1_isOfSamePlies : KV yX1_isOfSamePlies := ⟨tt_5 91 (by decide +kernel) rfl, tp_of 96 (by decide +kernel) rfl⟩
theorem kvX1_isPartOf : KV yX1_isPartOf := ⟨tt_5 100 (by decide +kernel) rfl, tp_of 97 (by decide +kernel) rfl⟩
theorem kvX1_isRowFlat : KV yX1_isRowFlat := ⟨tt_3 17 (by decide +kernel) rfl, tp_of 36 (by decide +kernel) rfl⟩
theorem kvX1_isRowStraight : KV yX1_isRowStraight := ⟨tt_3 23 (by decide +kernel) rfl, tp_of 37 (by decide +kernel) rfl⟩
theorem kvX1_limitAt : KV yX1_limitAt := ⟨tt_3 148 (by decide +kernel) rfl, tp_of 52 (by decide +kernel) rfl⟩
theorem kvX1_longestCommon : KV yX1_longestCommon := ⟨tt_5 104 (by decide +kernel) rfl, tp_of 98 (by decide +kernel) rfl⟩
theorem kvX1_number : KV yX1_number := ⟨tt_2 124 (by decide +kernel) rfl, tp_of 20 (by decide +kernel) rfl⟩
theorem kvX1_plies : KV yX1_plies := ⟨tt_2 173 (by decide +kernel) rfl, tp_of 27 (by decide +kernel) rfl⟩
theorem kvX1_pliesOfKind : KV yX1_pliesOfKind := ⟨tt_2 185 (by decide +kernel) rfl, tp_of 29 (by decide +kernel) rfl⟩
theorem kvX1_roomNow : KV yX1_roomNow := ⟨tt_2 169 (by decide +kernel) rfl, tp_of 26 (by decide +kernel) rfl⟩
theorem kvX1_row : KV yX1_row := ⟨tt_2 189 (by decide +kernel) rfl, tp_of 30 (by decide +kernel) rfl⟩
theorem kvX1_setCell : KV yX1_setCell := ⟨tt_2 134 (by decide +kernel) rfl, tp_of 21 (by decide +kernel) rfl⟩
theorem kvX1_setNumber : KV yX1_setNumber := ⟨tt_2 112 (by decide +kernel) rfl, tp_of 18 (by decide +kernel) rfl⟩
theorem kvX1_shape : KV yX1_shape := ⟨tt_3 10 (by decide +kernel) rfl, tp_of 35 (by decide +kernel) rfl⟩
theorem kvX1_suits : KV yX1_suits := ⟨tt_4 112 (by decide +kernel) rfl, tp_of 76 (by decide +kernel) rfl⟩
theorem kvX1_total : KV yX1_total := ⟨tt_2 237 (by decide +kernel) rfl, tp_of 33 (by decide +kernel) rfl⟩
theorem kvX1_totalOf : KV yX1_totalOf := ⟨tt_3 1 (by decide +kernel) rfl, tp_of 34 (by decide +kernel) rfl⟩
theorem kvX1_twistNow : KV yX1_twistNow := ⟨tt_3 48 (by decide +kernel) rfl, tp_of 40 (by decide +kernel) rfl⟩
theorem kvX1_typeAt : KV yX1_typeAt := ⟨tt_2 209 (by decide +kernel) rfl, tp_of 32 (by decide +kernel) rfl⟩
theorem kvX1_warpWithout : KV yX1_warpWithout := ⟨tt_3 35 (by decide +kernel) rfl, tp_of 39 (by decide +kernel) rfl⟩
theorem kvX2_isName : KV yX2_isName := ⟨tt_2 94 (by decide +kernel) rfl, tp_of 14 (by decide +kernel) rfl⟩
theorem kvX2_isNumberIn : KV yX2_isNumberIn := ⟨tt_2 78 (by decide +kernel) rfl, tp_of 11 (by decide +kernel) rfl⟩
theorem kvX2_next : KV yX2_next := ⟨tt_1 236 (by decide +kernel) rfl, tp_of 3 (by decide +kernel) rfl⟩
theorem kvX2_pass : KV yX2_pass := ⟨tt_2 13 (by decide +kernel) rfl, tp_of 7 (by decide +kernel) rfl⟩
theorem kvX2_read : KV yX2_read := ⟨tt_1 228 (by decide +kernel) rfl, tp_of 1 (by decide +kernel) rfl⟩
theorem kvX2_readKind : KV yX2_readKind := ⟨tt_2 90 (by decide +kernel) rfl, tp_of 13 (by decide +kernel) rfl⟩
theorem kvX2_readLine : KV yX2_readLine := ⟨tt_2 4 (by decide +kernel) rfl, tp_of 5 (by decide +kernel) rfl⟩
theorem kvX2_readNumber : KV yX2_readNumber := ⟨tt_2 108 (by decide +kernel) rfl, tp_of 17 (by decide +kernel) rfl⟩
theorem kvX2_readPlate : KV yX2_readPlate := ⟨tt_2 8 (by decide +kernel) rfl, tp_of 6 (by decide +kernel) rfl⟩
theorem kvX2_readPly : KV yX2_readPly := ⟨tt_2 138 (by decide +kernel) rfl, tp_of 22 (by decide +kernel) rfl⟩
theorem kvX2_refuse : KV yX2_refuse := ⟨tt_2 73 (by decide +kernel) rfl, tp_of 10 (by decide +kernel) rfl⟩
theorem kvX2_repeats : KV yX2_repeats := ⟨tt_2 103 (by decide +kernel) rfl, tp_of 16 (by decide +kernel) rfl⟩
theorem kvX2_spelledAngle : KV yX2_spelledAngle := ⟨tt_2 142 (by decide +kernel) rfl, tp_of 23 (by decide +kernel) rfl⟩
theorem kvX2_spells : KV yX2_spells := ⟨tt_2 17 (by decide +kernel) rfl, tp_of 8 (by decide +kernel) rfl⟩
theorem kvX2_tokenValue : KV yX2_tokenValue := ⟨tt_2 82 (by decide +kernel) rfl, tp_of 12 (by decide +kernel) rfl⟩
theorem kvX2_toldKind : KV yX2_toldKind := ⟨tt_2 99 (by decide +kernel) rfl, tp_of 15 (by decide +kernel) rfl⟩
theorem kvX4_along : KV yX4_along := ⟨tt_3 144 (by decide +kernel) rfl, tp_of 51 (by decide +kernel) rfl⟩
theorem kvX4_bound : KV yX4_bound := ⟨tt_3 155 (by decide +kernel) rfl, tp_of 53 (by decide +kernel) rfl⟩
theorem kvX4_cellAt : KV yX4_cellAt := ⟨tt_3 99 (by decide +kernel) rfl, tp_of 45 (by decide +kernel) rfl⟩
theorem kvX4_cofactor : KV yX4_cofactor := ⟨tt_3 95 (by decide +kernel) rfl, tp_of 44 (by decide +kernel) rfl⟩
theorem kvX4_fewestLost : KV yX4_fewestLost := ⟨tt_4 198 (by decide +kernel) rfl, tp_of 87 (by decide +kernel) rfl⟩
theorem kvX4_greatestTimes : KV yX4_greatestTimes := ⟨tt_3 168 (by decide +kernel) rfl, tp_of 54 (by decide +kernel) rfl⟩
theorem kvX4_part : KV yX4_part := ⟨tt_3 113 (by decide +kernel) rfl, tp_of 48 (by decide +kernel) rfl⟩
theorem kvX4_solve : KV yX4_solve := ⟨tt_3 108 (by decide +kernel) rfl, tp_of 47 (by decide +kernel) rfl⟩
theorem kvX4_strainedAt : KV yX4_strainedAt := ⟨tt_3 138 (by decide +kernel) rfl, tp_of 50 (by decide +kernel) rfl⟩
theorem kvX4_take : KV yX4_take := ⟨tt_3 90 (by decide +kernel) rfl, tp_of 43 (by decide +kernel) rfl⟩
theorem kvX4_weakest : KV yX4_weakest := ⟨tt_3 133 (by decide +kernel) rfl, tp_of 49 (by decide +kernel) rfl⟩
theorem kvX4_withinLimits : KV yX4_withinLimits := ⟨tt_4 204 (by decide +kernel) rfl, tp_of 88 (by decide +kernel) rfl⟩
theorem kvX5_add : KV yX5_add := ⟨tt_1 216 (by decide +kernel) rfl, tp_of 0 (by decide +kernel) rfl⟩
theorem kvX5_at : KV yX5_at := ⟨tt_2 31 (by decide +kernel) rfl, tp_of 9 (by decide +kernel) rfl⟩
theorem kvX5_classAt : KV yX5_classAt := ⟨tt_2 0 (by decide +kernel) rfl, tp_of 4 (by decide +kernel) rfl⟩
theorem kvX6_explore : KV yX6_explore := ⟨tt_4 134 (by decide +kernel) rfl, tp_of 78 (by decide +kernel) rfl⟩
theorem kvX6_goal : KV yX6_goal := ⟨tt_4 154 (by decide +kernel) rfl, tp_of 82 (by decide +kernel) rfl⟩
theorem kvX6_isNearerGoal : KV yX6_isNearerGoal := ⟨tt_4 158 (by decide +kernel) rfl, tp_of 83 (by decide +kernel) rfl⟩
theorem kvX6_leads : KV yX6_leads := ⟨tt_4 146 (by decide +kernel) rfl, tp_of 80 (by decide +kernel) rfl⟩
theorem kvX6_leastAhead : KV yX6_leastAhead := ⟨tt_4 186 (by decide +kernel) rfl, tp_of 86 (by decide +kernel) rfl⟩
theorem kvX6_leastDepthAbove : KV yX6_leastDepthAbove := ⟨tt_4 142 (by decide +kernel) rfl, tp_of 79 (by decide +kernel) rfl⟩
theorem kvX6_onTheWay : KV yX6_onTheWay := ⟨tt_4 181 (by decide +kernel) rfl, tp_of 85 (by decide +kernel) rfl⟩
theorem kvX6_steps : KV yX6_steps := ⟨tt_4 150 (by decide +kernel) rfl, tp_of 81 (by decide +kernel) rfl⟩
theorem kvX6_thinnerSet : KV yX6_thinnerSet := ⟨tt_4 123 (by decide +kernel) rfl, tp_of 77 (by decide +kernel) rfl⟩
theorem kvX6_thinnerSets : KV yX6_thinnerSets := ⟨tt_4 95 (by decide +kernel) rfl, tp_of 74 (by decide +kernel) rfl⟩
theorem kvX7_areLoads : KV yX7_areLoads := ⟨tt_3 79 (by decide +kernel) rfl, tp_of 41 (by decide +kernel) rfl⟩
theorem kvX7_frailSet : KV yX7_frailSet := ⟨tt_4 193 (by decide +kernel) rfl, tt_4 194 (by decide +kernel) rfl⟩
theorem kvX7_imagesBar : KV yX7_imagesBar := ⟨tt_5 87 (by decide +kernel) rfl, tp_of 95 (by decide +kernel) rfl⟩
theorem kvX7_isFlat : KV yX7_isFlat := ⟨tt_3 103 (by decide +kernel) rfl, tp_of 46 (by decide +kernel) rfl⟩
theorem kvX7_isImage : KV yX7_isImage := ⟨tt_5 71 (by decide +kernel) rfl, tp_of 94 (by decide +kernel) rfl⟩
theorem kvX7_isKind : KV yX7_isKind := ⟨tt_2 181 (by decide +kernel) rfl, tp_of 28 (by decide +kernel) rfl⟩
theorem kvX7_isMask : KV yX7_isMask := ⟨tt_3 180 (by decide +kernel) rfl, tp_of 55 (by decide +kernel) rfl⟩
theorem kvX7_isPly : KV yX7_isPly := ⟨tt_2 205 (by decide +kernel) rfl, tp_of 31 (by decide +kernel) rfl⟩
theorem kvX7_isSet : KV yX7_isSet := ⟨tt_4 172 (by decide +kernel) rfl, tp_of 84 (by decide +kernel) rfl⟩
theorem kvX7_leftWithout : KV yX7_leftWithout := ⟨tt_4 215 (by decide +kernel) rfl, tp_of 89 (by decide +kernel) rfl⟩
theorem kvX7_relay : KV yX7_relay := ⟨tt_5 32 (by decide +kernel) rfl, tp_of 93 (by decide +kernel) rfl⟩
theorem kvX7_stayWith : KV yX7_stayWith := ⟨tt_5 19 (by decide +kernel) rfl, tp_of 92 (by decide +kernel) rfl⟩
theorem kvX7_yielding : KV yX7_yielding := ⟨tt_3 86 (by decide +kernel) rfl, tp_of 42 (by decide +kernel) rfl⟩
theorem kvX8_allBits : KV yX8_allBits := ⟨tt_7 143 (by decide +kernel) rfl, tp_of 147 (by decide +kernel) rfl⟩
theorem kvX8_along : KV yX8_along := ⟨tt_6 217 (by decide +kernel) rfl, tp_of 127 (by decide +kernel) rfl⟩
theorem kvX8_becomesRow : KV yX8_becomesRow := ⟨tt_8 5 (by decide +kernel) rfl, tp_of 158 (by decide +kernel) rfl⟩
theorem kvX8_commonOf : KV yX8_commonOf := ⟨tt_7 178 (by decide +kernel) rfl, tp_of 151 (by decide +kernel) rfl⟩
theorem kvX8_detOf : KV yX8_detOf := ⟨tt_6 193 (by decide +kernel) rfl, tp_of 125 (by decide +kernel) rfl⟩
theorem kvX8_entry : KV yX8_entry := ⟨tt_6 125 (by decide +kernel) rfl, tp_of 116 (by decide +kernel) rfl⟩
theorem kvX8_farFromPlate : KV yX8_farFromPlate := ⟨tt_7 55 (by decide +kernel) rfl, tp_of 137 (by decide +kernel) rfl⟩
theorem kvX8_faults : KV yX8_faults := ⟨tt_6 37 (by decide +kernel) rfl, tp_of 105 (by decide +kernel) rfl⟩
theorem kvX8_finds : KV yX8_finds := ⟨tt_7 59 (by decide +kernel) rfl, tp_of 138 (by decide +kernel) rfl⟩
theorem kvX8_goal : KV yX8_goal := ⟨tt_7 151 (by decide +kernel) rfl, tp_of 149 (by decide +kernel) rfl⟩
theorem kvX8_goes : KV yX8_goes := ⟨tt_7 39 (by decide +kernel) rfl, tp_of 133 (by decide +kernel) rfl⟩
theorem kvX8_goesBack : KV yX8_goesBack := ⟨tt_8 34 (by decide +kernel) rfl, tp_of 159 (by decide +kernel) rfl⟩
theorem kvX8_is : KV yX8_is := ⟨tt_6 108 (by decide +kernel) rfl, tp_of 113 (by decide +kernel) rfl⟩
theorem kvX8_isAsked : KV yX8_isAsked := ⟨tt_7 31 (by decide +kernel) rfl, tp_of 132 (by decide +kernel) rfl⟩
theorem kvX8_isAt : KV yX8_isAt := ⟨tt_6 12 (by decide +kernel) rfl, tp_of 100 (by decide +kernel) rfl⟩
theorem kvX8_isBalanced : KV yX8_isBalanced := ⟨tt_6 146 (by decide +kernel) rfl, tp_of 120 (by decide +kernel) rfl⟩
theorem kvX8_isBest : KV yX8_isBest := ⟨tt_7 87 (by decide +kernel) rfl, tp_of 141 (by decide +kernel) rfl⟩
theorem kvX8_isFull : KV yX8_isFull := ⟨tt_7 213 (by decide +kernel) rfl, tp_of 155 (by decide +kernel) rfl⟩
theorem kvX8_isKind : KV yX8_isKind := ⟨tt_6 85 (by decide +kernel) rfl, tp_of 111 (by decide +kernel) rfl⟩
theorem kvX8_isMirrored : KV yX8_isMirrored := ⟨tt_6 133 (by decide +kernel) rfl, tp_of 117 (by decide +kernel) rfl⟩
theorem kvX8_isPly : KV yX8_isPly := ⟨tt_6 94 (by decide +kernel) rfl, tp_of 112 (by decide +kernel) rfl⟩
theorem kvX8_isSo : KV yX8_isSo := ⟨tt_7 47 (by decide +kernel) rfl, tp_of 135 (by decide +kernel) rfl⟩
theorem kvX8_isStep : KV yX8_isStep := ⟨tt_7 147 (by decide +kernel) rfl, tp_of 148 (by decide +kernel) rfl⟩
theorem kvX8_isThin : KV yX8_isThin := ⟨tt_7 119 (by decide +kernel) rfl, tp_of 143 (by decide +kernel) rfl⟩
theorem kvX8_isWay : KV yX8_isWay := ⟨tt_7 135 (by decide +kernel) rfl, tp_of 145 (by decide +kernel) rfl⟩
theorem kvX8_isWithin : KV yX8_isWithin := ⟨tt_6 234 (by decide +kernel) rfl, tp_of 129 (by decide +kernel) rfl⟩
theorem kvX8_isWord : KV yX8_isWord := ⟨tt_6 27 (by decide +kernel) rfl, tp_of 103 (by decide +kernel) rfl⟩
theorem kvX8_keeps : KV yX8_keeps := ⟨tt_7 217 (by decide +kernel) rfl, tp_of 156 (by decide +kernel) rfl⟩
theorem kvX8_kindHere : KV yX8_kindHere := ⟨tt_6 56 (by decide +kernel) rfl, tp_of 109 (by decide +kernel) rfl⟩
theorem kvX8_laysPlate : KV yX8_laysPlate := ⟨tt_6 114 (by decide +kernel) rfl, tp_of 114 (by decide +kernel) rfl⟩
theorem kvX8_laysSet : KV yX8_laysSet := ⟨tt_7 123 (by decide +kernel) rfl, tp_of 144 (by decide +kernel) rfl⟩
theorem kvX8_laysSteps : KV yX8_laysSteps := ⟨tt_7 139 (by decide +kernel) rfl, tp_of 146 (by decide +kernel) rfl⟩
theorem kvX8_laysStrains : KV yX8_laysStrains := ⟨tt_6 189 (by decide +kernel) rfl, tp_of 124 (by decide +kernel) rfl⟩
theorem kvX8_likesHere : KV yX8_likesHere := ⟨tt_6 172 (by decide +kernel) rfl, tp_of 122 (by decide +kernel) rfl⟩
theorem kvX8_limitOf : KV yX8_limitOf := ⟨tt_6 221 (by decide +kernel) rfl, tp_of 128 (by decide +kernel) rfl⟩
theorem kvX8_longestRun : KV yX8_longestRun := ⟨tt_6 163 (by decide +kernel) rfl, tp_of 121 (by decide +kernel) rfl⟩
theorem kvX8_lostBy : KV yX8_lostBy := ⟨tt_7 19 (by decide +kernel) rfl, tp_of 131 (by decide +kernel) rfl⟩
theorem kvX8_manyIn : KV yX8_manyIn := ⟨tt_7 182 (by decide +kernel) rfl, tp_of 152 (by decide +kernel) rfl⟩
theorem kvX8_minor : KV yX8_minor := ⟨tt_6 197 (by decide +kernel) rfl, tp_of 126 (by decide +kernel) rfl⟩
theorem kvX8_next : KV yX8_next := ⟨tt_6 8 (by decide +kernel) rfl, tp_of 99 (by decide +kernel) rfl⟩
theorem kvX8_notes : KV yX8_notes := ⟨tt_7 67 (by decide +kernel) rfl, tp_of 140 (by decide +kernel) rfl⟩
theorem kvX8_passes : KV yX8_passes := ⟨tt_6 33 (by decide +kernel) rfl, tp_of 104 (by decide +kernel) rfl⟩
theorem kvX8_places : KV yX8_places := ⟨tt_7 43 (by decide +kernel) rfl, tp_of 134 (by decide +kernel) rfl⟩
theorem kvX8_reads : KV yX8_reads := ⟨tt_6 46 (by decide +kernel) rfl, tp_of 107 (by decide +kernel) rfl⟩
theorem kvX8_readsAll : KV yX8_readsAll := ⟨tt_6 18 (by decide +kernel) rfl, tp_of 101 (by decide +kernel) rfl⟩
theorem kvX8_readsKind : KV yX8_readsKind := ⟨tt_6 51 (by decide +kernel) rfl, tp_of 108 (by decide +kernel) rfl⟩
theorem kvX8_readsNamed : KV yX8_readsNamed := ⟨tt_6 42 (by decide +kernel) rfl, tp_of 106 (by decide +kernel) rfl⟩
theorem kvX8_readsPlate : KV yX8_readsPlate := ⟨tt_6 22 (by decide +kernel) rfl, tp_of 102 (by decide +kernel) rfl⟩
theorem kvX8_readsPly : KV yX8_readsPly := ⟨tt_6 65 (by decide +kernel) rfl, tp_of 110 (by decide +kernel) rfl⟩
theorem kvX8_stays : KV yX8_stays := ⟨tt_7 233 (by decide +kernel) rfl, tp_of 157 (by decide +kernel) rfl⟩
theorem kvX8_strained : KV yX8_strained := ⟨tt_6 180 (by decide +kernel) rfl, tp_of 123 (by decide +kernel) rfl⟩
theorem kvX8_sum : KV yX8_sum := ⟨tt_6 118 (by decide +kernel) rfl, tp_of 115 (by decide +kernel) rfl⟩
theorem kvX8_thinOf : KV yX8_thinOf := ⟨tt_7 115 (by decide +kernel) rfl, tp_of 142 (by decide +kernel) rfl⟩
theorem kvX8_twistHere : KV yX8_twistHere := ⟨tt_6 142 (by decide +kernel) rfl, tp_of 119 (by decide +kernel) rfl⟩
theorem kvX8_typeIn : KV yX8_typeIn := ⟨tt_7 186 (by decide +kernel) rfl, tp_of 153 (by decide +kernel) rfl⟩
theorem kvX8_upsetAt : KV yX8_upsetAt := ⟨tt_7 202 (by decide +kernel) rfl, tp_of 154 (by decide +kernel) rfl⟩
theorem kvX8_valueBy : KV yX8_valueBy := ⟨tt_7 63 (by decide +kernel) rfl, tp_of 139 (by decide +kernel) rfl⟩
theorem kvX8_visits : KV yX8_visits := ⟨tt_7 51 (by decide +kernel) rfl, tp_of 136 (by decide +kernel) rfl⟩
theorem kvX8_warpHere : KV yX8_warpHere := ⟨tt_6 137 (by decide +kernel) rfl, tp_of 118 (by decide +kernel) rfl⟩
theorem kvX8_weakest : KV yX8_weakest := ⟨tt_7 2 (by decide +kernel) rfl, tp_of 130 (by decide +kernel) rfl⟩
theorem kvX8_why : KV yX8_why := ⟨tt_7 171 (by decide +kernel) rfl, tp_of 150 (by decide +kernel) rfl⟩
theorem lf_J0_1053 : Cond.fieldLink RJ0 1053 "jdk/internal/util/Preconditions" "SIOOBE_FORMATTER" "Ljava/util/function/BiFunction;" ∈ Tw := tt_2 47 (by decide +kernel) rfl
theorem lf_J0_15 : Cond.fieldLink RJ0 15 "java/lang/String" "coder" "B" ∈ Tw := tt_8 41 (by decide +kernel) rfl
theorem lf_J0_38 : Cond.fieldLink RJ0 38 "java/lang/String" "COMPACT_STRINGS" "Z" ∈ Tw := tt_2 27 (by decide +kernel) rfl
theorem lf_J0_9 : Cond.fieldLink RJ0 9 "java/lang/String" "value" "[B" ∈ Tw := tt_8 40 (by decide +kernel) rfl
theorem lf_X0_15 : Cond.fieldLink RX0 15 "PlyStacker$Orders" "seen" "[J" ∈ Tw := tt_1 133 (by decide +kernel) rfl
theorem lf_X0_18 : Cond.fieldLink RX0 18 "PlyStacker$Orders" "ready" "Z" ∈ Tw := tt_1 135 (by decide +kernel) rfl
theorem lf_X0_37 : Cond.fieldLink RX0 37 "PlyStacker$Orders" "pool" "I" ∈ Tw := tt_1 136 (by decide +kernel) rfl
theorem lf_X0_41 : Cond.fieldLink RX0 41 "PlyStacker$Orders" "plies" "I" ∈ Tw := tt_1 137 (by decide +kernel) rfl
theorem lf_X0_43 : Cond.fieldLink RX0 43 "PlyStacker$Orders" "room" "I" ∈ Tw := tt_1 138 (by decide +kernel) rfl
theorem lf_X0_49 : Cond.fieldLink RX0 49 "PlyStacker$Orders" "size" "I" ∈ Tw := tt_1 134 (by decide +kernel) rfl
theorem lf_X0_9 : Cond.fieldLink RX0 9 "PlyStacker$Orders" "rows" "[J" ∈ Tw := tt_1 132 (by decide +kernel) rfl
theorem lf_X1_108 : Cond.fieldLink RX1 108 "PlyStacker$Plate" "UPPER_CELLS" "[I" ∈ Tw := tt_3 19 (by decide +kernel) rfl
theorem lf_X1_15 : Cond.fieldLink RX1 15 "PlyStacker$Plate" "cells" "[I" ∈ Tw := tt_1 54 (by decide +kernel) rfl
theorem lf_X1_18 : Cond.fieldLink RX1 18 "PlyStacker$Plate" "rows" "[I" ∈ Tw := tt_1 55 (by decide +kernel) rfl
theorem lf_X1_21 : Cond.fieldLink RX1 21 "PlyStacker$Plate" "sizes" "[I" ∈ Tw := tt_1 57 (by decide +kernel) rfl
theorem lf_X1_24 : Cond.fieldLink RX1 24 "PlyStacker$Plate" "rooms" "[I" ∈ Tw := tt_1 59 (by decide +kernel) rfl
theorem lf_X1_27 : Cond.fieldLink RX1 27 "PlyStacker$Plate" "told" "Z" ∈ Tw := tt_1 61 (by decide +kernel) rfl
theorem lf_X1_31 : Cond.fieldLink RX1 31 "PlyStacker$Plate" "lines" "I" ∈ Tw := tt_1 64 (by decide +kernel) rfl
theorem lf_X1_35 : Cond.fieldLink RX1 35 "PlyStacker$Plate" "kinds" "I" ∈ Tw := tt_1 67 (by decide +kernel) rfl
theorem lf_X1_38 : Cond.fieldLink RX1 38 "PlyStacker$Plate" "acts" "I" ∈ Tw := tt_1 70 (by decide +kernel) rfl
theorem lf_X1_67 : Cond.fieldLink RX1 67 "PlyStacker$Plate" "SIGN_TWO" "[I" ∈ Tw := tt_2 126 (by decide +kernel) rfl
theorem lf_X1_70 : Cond.fieldLink RX1 70 "PlyStacker$Plate" "SIGN_THREE" "[I" ∈ Tw := tt_2 128 (by decide +kernel) rfl
theorem lf_X1_73 : Cond.fieldLink RX1 73 "PlyStacker$Plate" "SIGN_SKEW" "[I" ∈ Tw := tt_2 130 (by decide +kernel) rfl
theorem lf_X1_9 : Cond.fieldLink RX1 9 "PlyStacker$Plate" "numbers" "[I" ∈ Tw := tt_1 53 (by decide +kernel) rfl
theorem lf_X2_12 : Cond.fieldLink RX2 12 "PlyStacker$Reader" "draft" "LPlyStacker$Plate;" ∈ Tw := tt_1 92 (by decide +kernel) rfl
theorem lf_X2_18 : Cond.fieldLink RX2 18 "PlyStacker$Reader" "nameStarts" "[I" ∈ Tw := tt_1 94 (by decide +kernel) rfl
theorem lf_X2_22 : Cond.fieldLink RX2 22 "PlyStacker$Reader" "nameLengths" "[I" ∈ Tw := tt_1 95 (by decide +kernel) rfl
theorem lf_X2_25 : Cond.fieldLink RX2 25 "PlyStacker$Reader" "place" "I" ∈ Tw := tt_1 102 (by decide +kernel) rfl
theorem lf_X2_29 : Cond.fieldLink RX2 29 "PlyStacker$Reader" "text" "LPlyStacker$Tape;" ∈ Tw := tt_1 96 (by decide +kernel) rfl
theorem lf_X2_33 : Cond.fieldLink RX2 33 "PlyStacker$Reader" "fault" "I" ∈ Tw := tt_1 100 (by decide +kernel) rfl
theorem lf_X2_36 : Cond.fieldLink RX2 36 "PlyStacker$Reader" "after" "I" ∈ Tw := tt_1 99 (by decide +kernel) rfl
theorem lf_X2_45 : Cond.fieldLink RX2 45 "PlyStacker$Reader" "token" "I" ∈ Tw := tt_1 97 (by decide +kernel) rfl
theorem lf_X2_59 : Cond.fieldLink RX2 59 "PlyStacker$Reader" "start" "I" ∈ Tw := tt_1 98 (by decide +kernel) rfl
theorem lf_X3_33 : Cond.fieldLink RX3 33 "PlyStacker$Rows" "ONWARD" "[I" ∈ Tw := tt_5 45 (by decide +kernel) rfl
theorem lf_X3_41 : Cond.fieldLink RX3 41 "PlyStacker$Rows" "OVERTURNED" "[I" ∈ Tw := tt_5 55 (by decide +kernel) rfl
theorem lf_X4_15 : Cond.fieldLink RX4 15 "PlyStacker$Stress" "parts" "[J" ∈ Tw := tt_1 178 (by decide +kernel) rfl
theorem lf_X4_28 : Cond.fieldLink RX4 28 "PlyStacker$Stress" "det" "J" ∈ Tw := tt_1 179 (by decide +kernel) rfl
theorem lf_X4_9 : Cond.fieldLink RX4 9 "PlyStacker$Stress" "cells" "[J" ∈ Tw := tt_1 177 (by decide +kernel) rfl
theorem lf_X5_15 : Cond.fieldLink RX5 15 "PlyStacker$Tape" "size" "I" ∈ Tw := tt_1 34 (by decide +kernel) rfl
theorem lf_X5_9 : Cond.fieldLink RX5 9 "PlyStacker$Tape" "bytes" "[B" ∈ Tw := tt_1 32 (by decide +kernel) rfl
theorem lf_X6_47 : Cond.fieldLink RX6 47 "PlyStacker$Ways" "stride" "I" ∈ Tw := tt_1 163 (by decide +kernel) rfl
theorem lf_X6_57 : Cond.fieldLink RX6 57 "PlyStacker$Ways" "all" "I" ∈ Tw := tt_1 162 (by decide +kernel) rfl
theorem lf_X6_9 : Cond.fieldLink RX6 9 "PlyStacker$Ways" "depths" "[I" ∈ Tw := tt_1 161 (by decide +kernel) rfl
theorem lf_X7_12 : Cond.fieldLink RX7 12 "PlyStacker" "tape" "LPlyStacker$Tape;" ∈ Tw := tt_1 188 (by decide +kernel) rfl
theorem lf_X7_23 : Cond.fieldLink RX7 23 "PlyStacker" "reader" "LPlyStacker$Reader;" ∈ Tw := tt_1 189 (by decide +kernel) rfl
theorem lf_X7_30 : Cond.fieldLink RX7 30 "PlyStacker" "now" "LPlyStacker$Plate;" ∈ Tw := tt_1 190 (by decide +kernel) rfl
theorem lf_X7_34 : Cond.fieldLink RX7 34 "PlyStacker" "images" "[LPlyStacker$Plate;" ∈ Tw := tt_1 191 (by decide +kernel) rfl
theorem lf_X7_41 : Cond.fieldLink RX7 41 "PlyStacker" "choices" "LPlyStacker$Orders;" ∈ Tw := tt_1 192 (by decide +kernel) rfl
theorem lf_X7_48 : Cond.fieldLink RX7 48 "PlyStacker" "ways" "LPlyStacker$Ways;" ∈ Tw := tt_1 193 (by decide +kernel) rfl
theorem lf_X7_55 : Cond.fieldLink RX7 55 "PlyStacker" "stress" "LPlyStacker$Stress;" ∈ Tw := tt_1 194 (by decide +kernel) rfl
theorem lf_X8_100 : Cond.fieldLink RX8 100 "PlyStackerModel" "token" "I" ∈ Tw := tt_5 135 (by decide +kernel) rfl
theorem lf_X8_108 : Cond.fieldLink RX8 108 "PlyStackerModel" "bad" "Z" ∈ Tw := tt_5 137 (by decide +kernel) rfl
theorem lf_X8_112 : Cond.fieldLink RX8 112 "PlyStackerModel" "faultKind" "I" ∈ Tw := tt_5 131 (by decide +kernel) rfl
theorem lf_X8_188 : Cond.fieldLink RX8 188 "PlyStackerModel" "acted" "I" ∈ Tw := tt_5 123 (by decide +kernel) rfl
theorem lf_X8_206 : Cond.fieldLink RX8 206 "PlyStackerModel" "wide" "I" ∈ Tw := tt_5 141 (by decide +kernel) rfl
theorem lf_X8_209 : Cond.fieldLink RX8 209 "PlyStackerModel" "lost" "I" ∈ Tw := tt_5 142 (by decide +kernel) rfl
theorem lf_X8_21 : Cond.fieldLink RX8 21 "PlyStackerModel" "mem" "[I" ∈ Tw := tt_5 121 (by decide +kernel) rfl
theorem lf_X8_25 : Cond.fieldLink RX8 25 "PlyStackerModel" "was" "[I" ∈ Tw := tt_5 122 (by decide +kernel) rfl
theorem lf_X8_264 : Cond.fieldLink RX8 264 "PlyStackerModel" "det" "J" ∈ Tw := tt_5 144 (by decide +kernel) rfl
theorem lf_X8_28 : Cond.fieldLink RX8 28 "PlyStackerModel" "past" "[I" ∈ Tw := tt_5 124 (by decide +kernel) rfl
theorem lf_X8_31 : Cond.fieldLink RX8 31 "PlyStackerModel" "images" "[I" ∈ Tw := tt_5 125 (by decide +kernel) rfl
theorem lf_X8_317 : Cond.fieldLink RX8 317 "PlyStackerModel" "orders" "I" ∈ Tw := tt_5 149 (by decide +kernel) rfl
theorem lf_X8_320 : Cond.fieldLink RX8 320 "PlyStackerModel" "foundAt" "I" ∈ Tw := tt_5 150 (by decide +kernel) rfl
theorem lf_X8_323 : Cond.fieldLink RX8 323 "PlyStackerModel" "foundBy" "J" ∈ Tw := tt_5 151 (by decide +kernel) rfl
theorem lf_X8_326 : Cond.fieldLink RX8 326 "PlyStackerModel" "mode" "I" ∈ Tw := tt_5 147 (by decide +kernel) rfl
theorem lf_X8_329 : Cond.fieldLink RX8 329 "PlyStackerModel" "wanted" "I" ∈ Tw := tt_5 148 (by decide +kernel) rfl
theorem lf_X8_34 : Cond.fieldLink RX8 34 "PlyStackerModel" "imageActed" "[I" ∈ Tw := tt_5 126 (by decide +kernel) rfl
theorem lf_X8_345 : Cond.fieldLink RX8 345 "PlyStackerModel" "mask" "I" ∈ Tw := tt_5 146 (by decide +kernel) rfl
theorem lf_X8_37 : Cond.fieldLink RX8 37 "PlyStackerModel" "imagePast" "[I" ∈ Tw := tt_5 127 (by decide +kernel) rfl
theorem lf_X8_377 : Cond.fieldLink RX8 377 "PlyStackerModel" "unlikes" "I" ∈ Tw := tt_5 154 (by decide +kernel) rfl
theorem lf_X8_40 : Cond.fieldLink RX8 40 "PlyStackerModel" "hasImage" "[Z" ∈ Tw := tt_5 128 (by decide +kernel) rfl
theorem lf_X8_44 : Cond.fieldLink RX8 44 "PlyStackerModel" "tape" "[I" ∈ Tw := tt_5 129 (by decide +kernel) rfl
theorem lf_X8_47 : Cond.fieldLink RX8 47 "PlyStackerModel" "faultPlace" "I" ∈ Tw := tt_5 132 (by decide +kernel) rfl
theorem lf_X8_51 : Cond.fieldLink RX8 51 "PlyStackerModel" "nameAt" "[I" ∈ Tw := tt_5 138 (by decide +kernel) rfl
theorem lf_X8_54 : Cond.fieldLink RX8 54 "PlyStackerModel" "nameLong" "[I" ∈ Tw := tt_5 139 (by decide +kernel) rfl
theorem lf_X8_57 : Cond.fieldLink RX8 57 "PlyStackerModel" "row" "[I" ∈ Tw := tt_5 140 (by decide +kernel) rfl
theorem lf_X8_60 : Cond.fieldLink RX8 60 "PlyStackerModel" "strain" "[J" ∈ Tw := tt_5 143 (by decide +kernel) rfl
theorem lf_X8_64 : Cond.fieldLink RX8 64 "PlyStackerModel" "left" "[I" ∈ Tw := tt_5 145 (by decide +kernel) rfl
theorem lf_X8_67 : Cond.fieldLink RX8 67 "PlyStackerModel" "found" "[I" ∈ Tw := tt_5 152 (by decide +kernel) rfl
theorem lf_X8_71 : Cond.fieldLink RX8 71 "PlyStackerModel" "seen" "[J" ∈ Tw := tt_5 153 (by decide +kernel) rfl
theorem lf_X8_74 : Cond.fieldLink RX8 74 "PlyStackerModel" "steps" "[I" ∈ Tw := tt_5 155 (by decide +kernel) rfl
theorem lf_X8_77 : Cond.fieldLink RX8 77 "PlyStackerModel" "rows" "[I" ∈ Tw := tt_5 156 (by decide +kernel) rfl
theorem lf_X8_80 : Cond.fieldLink RX8 80 "PlyStackerModel" "taped" "I" ∈ Tw := tt_5 130 (by decide +kernel) rfl
theorem lf_X8_87 : Cond.fieldLink RX8 87 "PlyStackerModel" "at" "I" ∈ Tw := tt_5 133 (by decide +kernel) rfl
theorem lf_X8_94 : Cond.fieldLink RX8 94 "PlyStackerModel" "begin" "I" ∈ Tw := tt_5 134 (by decide +kernel) rfl
theorem lf_X8_97 : Cond.fieldLink RX8 97 "PlyStackerModel" "value" "I" ∈ Tw := tt_5 136 (by decide +kernel) rfl
theorem lm_J0_1059 : Cond.methodLink RJ0 1059 yJ3_checkIndex_8e157 ∈ Tw := tt_2 49 (by decide +kernel) rfl
theorem lm_J0_335 : Cond.methodLink RJ0 335 yJ0_coder_7d493 ∈ Tw := tt_2 23 (by decide +kernel) rfl
theorem lm_J0_492 : Cond.methodLink RJ0 492 yJ0_isLatin1_aae02 ∈ Tw := tt_2 37 (by decide +kernel) rfl
theorem lm_J0_495 : Cond.methodLink RJ0 495 yJ1_charAt_3b067 ∈ Tw := tt_2 41 (by decide +kernel) rfl
theorem lm_J1_9 : Cond.methodLink RJ1 9 yJ0_checkIndex_df160 ∈ Tw := tt_2 44 (by decide +kernel) rfl
theorem lm_X0_100 : Cond.methodLink RX0 100 yX0_placeAt ∈ Tw := tt_3 225 (by decide +kernel) rfl
theorem lm_X0_103 : Cond.methodLink RX0 103 yX0_isAmong ∈ Tw := tt_3 229 (by decide +kernel) rfl
theorem lm_X0_106 : Cond.methodLink RX0 106 yX0_rowAt ∈ Tw := tt_4 14 (by decide +kernel) rfl
theorem lm_X0_116 : Cond.methodLink RX0 116 yX0_merit ∈ Tw := tt_4 23 (by decide +kernel) rfl
theorem lm_X0_124 : Cond.methodLink RX0 124 yJ7_fill_d0a16 ∈ Tw := tt_4 60 (by decide +kernel) rfl
theorem lm_X0_130 : Cond.methodLink RX0 130 yX0_bendKey ∈ Tw := tt_4 63 (by decide +kernel) rfl
theorem lm_X0_134 : Cond.methodLink RX0 134 yX0_isNew ∈ Tw := tt_4 68 (by decide +kernel) rfl
theorem lm_X0_52 : Cond.methodLink RX0 52 yX0_mostRows ∈ Tw := tt_3 192 (by decide +kernel) rfl
theorem lm_X0_55 : Cond.methodLink RX0 55 yX0_lay ∈ Tw := tt_3 198 (by decide +kernel) rfl
theorem lm_X0_62 : Cond.methodLink RX0 62 yJ9_max_7cf53 ∈ Tw := tt_3 197 (by decide +kernel) rfl
theorem lm_X0_67 : Cond.methodLink RX0 67 yX0_shapeOf ∈ Tw := tt_3 202 (by decide +kernel) rfl
theorem lm_X0_71 : Cond.methodLink RX0 71 yX0_store ∈ Tw := tt_3 209 (by decide +kernel) rfl
theorem lm_X1_102 : Cond.methodLink RX1 102 yX1_isRowFlat ∈ Tw := tt_3 15 (by decide +kernel) rfl
theorem lm_X1_105 : Cond.methodLink RX1 105 yX1_isRowStraight ∈ Tw := tt_3 21 (by decide +kernel) rfl
theorem lm_X1_114 : Cond.methodLink RX1 114 yX1_roomNow ∈ Tw := tt_4 115 (by decide +kernel) rfl
theorem lm_X1_117 : Cond.methodLink RX1 117 yX1_shape ∈ Tw := tt_4 116 (by decide +kernel) rfl
theorem lm_X1_127 : Cond.methodLink RX1 127 yX1_longestCommon ∈ Tw := tt_5 102 (by decide +kernel) rfl
theorem lm_X1_131 : Cond.methodLink RX1 131 yX1_typeAt ∈ Tw := tt_5 106 (by decide +kernel) rfl
theorem lm_X1_133 : Cond.methodLink RX1 133 yJ9_max_7cf53 ∈ Tw := tt_5 107 (by decide +kernel) rfl
theorem lm_X1_136 : Cond.methodLink RX1 136 yJ9_min_7cf53 ∈ Tw := tt_5 108 (by decide +kernel) rfl
theorem lm_X1_41 : Cond.methodLink RX1 41 arraycopyName ∈ Tw := tt_2 152 (by decide +kernel) rfl
theorem lm_X1_47 : Cond.methodLink RX1 47 yX1_isFull ∈ Tw := tt_5 1 (by decide +kernel) rfl
theorem lm_X1_51 : Cond.methodLink RX1 51 yX1_plies ∈ Tw := tt_2 191 (by decide +kernel) rfl
theorem lm_X1_55 : Cond.methodLink RX1 55 yX1_row ∈ Tw := tt_2 187 (by decide +kernel) rfl
theorem lm_X1_64 : Cond.methodLink RX1 64 yX1_number ∈ Tw := tt_2 122 (by decide +kernel) rfl
theorem lm_X1_76 : Cond.methodLink RX1 76 yX1_setCell ∈ Tw := tt_2 132 (by decide +kernel) rfl
theorem lm_X1_80 : Cond.methodLink RX1 80 yX1_totalOf ∈ Tw := tt_2 239 (by decide +kernel) rfl
theorem lm_X1_88 : Cond.methodLink RX1 88 yX1_total ∈ Tw := tt_3 37 (by decide +kernel) rfl
theorem lm_X1_92 : Cond.methodLink RX1 92 yJ9_abs_067f4 ∈ Tw := tt_3 38 (by decide +kernel) rfl
theorem lm_X2_100 : Cond.methodLink RX2 100 yX2_pass ∈ Tw := tt_2 11 (by decide +kernel) rfl
theorem lm_X2_105 : Cond.methodLink RX2 105 yX2_isNumberIn ∈ Tw := tt_2 76 (by decide +kernel) rfl
theorem lm_X2_112 : Cond.methodLink RX2 112 yX2_tokenValue ∈ Tw := tt_2 80 (by decide +kernel) rfl
theorem lm_X2_119 : Cond.methodLink RX2 119 yX2_isName ∈ Tw := tt_2 92 (by decide +kernel) rfl
theorem lm_X2_122 : Cond.methodLink RX2 122 yX2_toldKind ∈ Tw := tt_2 97 (by decide +kernel) rfl
theorem lm_X2_127 : Cond.methodLink RX2 127 yX2_readNumber ∈ Tw := tt_2 106 (by decide +kernel) rfl
theorem lm_X2_150 : Cond.methodLink RX2 150 yX2_spelledAngle ∈ Tw := tt_2 140 (by decide +kernel) rfl
theorem lm_X2_156 : Cond.methodLink RX2 156 yJ0_length_8abf5 ∈ Tw := tt_2 19 (by decide +kernel) rfl
theorem lm_X2_161 : Cond.methodLink RX2 161 yJ0_charAt_5068e ∈ Tw := tt_2 33 (by decide +kernel) rfl
theorem lm_X2_165 : Cond.methodLink RX2 165 yX2_repeats ∈ Tw := tt_2 101 (by decide +kernel) rfl
theorem lm_X2_42 : Cond.methodLink RX2 42 yX2_next ∈ Tw := tt_1 234 (by decide +kernel) rfl
theorem lm_X2_48 : Cond.methodLink RX2 48 yX2_readLine ∈ Tw := tt_2 2 (by decide +kernel) rfl
theorem lm_X2_71 : Cond.methodLink RX2 71 yJ9_min_7cf53 ∈ Tw := tt_2 84 (by decide +kernel) rfl
theorem lm_X2_77 : Cond.methodLink RX2 77 yX2_readPlate ∈ Tw := tt_2 6 (by decide +kernel) rfl
theorem lm_X2_82 : Cond.methodLink RX2 82 yX2_spells ∈ Tw := tt_2 15 (by decide +kernel) rfl
theorem lm_X2_86 : Cond.methodLink RX2 86 yX2_readKind ∈ Tw := tt_2 88 (by decide +kernel) rfl
theorem lm_X2_91 : Cond.methodLink RX2 91 yX2_readPly ∈ Tw := tt_2 136 (by decide +kernel) rfl
theorem lm_X2_94 : Cond.methodLink RX2 94 yX2_refuse ∈ Tw := tt_2 71 (by decide +kernel) rfl
theorem lm_X3_15 : Cond.methodLink RX3 15 yX3_angleAt ∈ Tw := tt_3 57 (by decide +kernel) rfl
theorem lm_X3_18 : Cond.methodLink RX3 18 yJ9_max_7cf53 ∈ Tw := tt_3 60 (by decide +kernel) rfl
theorem lm_X3_23 : Cond.methodLink RX3 23 yX3_lowestLeft ∈ Tw := tt_4 80 (by decide +kernel) rfl
theorem lm_X3_27 : Cond.methodLink RX3 27 yJ6_bitCount_0f7a4 ∈ Tw := tt_4 83 (by decide +kernel) rfl
theorem lm_X3_37 : Cond.methodLink RX3 37 yX3_with ∈ Tw := tt_5 47 (by decide +kernel) rfl
theorem lm_X3_9 : Cond.methodLink RX3 9 yX3_typeAt ∈ Tw := tt_2 195 (by decide +kernel) rfl
theorem lm_X4_24 : Cond.methodLink RX4 24 yX4_cofactor ∈ Tw := tt_3 93 (by decide +kernel) rfl
theorem lm_X4_32 : Cond.methodLink RX4 32 yX4_cellAt ∈ Tw := tt_3 97 (by decide +kernel) rfl
theorem lm_X4_47 : Cond.methodLink RX4 47 yX4_along ∈ Tw := tt_3 142 (by decide +kernel) rfl
theorem lm_X4_51 : Cond.methodLink RX4 51 yJ9_abs_067f4 ∈ Tw := tt_3 118 (by decide +kernel) rfl
theorem lm_X4_64 : Cond.methodLink RX4 64 yX4_strainedAt ∈ Tw := tt_3 136 (by decide +kernel) rfl
theorem lm_X4_68 : Cond.methodLink RX4 68 yX4_bound ∈ Tw := tt_3 170 (by decide +kernel) rfl
theorem lm_X4_71 : Cond.methodLink RX4 71 yJ9_min_f86c9 ∈ Tw := tt_3 171 (by decide +kernel) rfl
theorem lm_X4_75 : Cond.methodLink RX4 75 yX4_take ∈ Tw := tt_4 206 (by decide +kernel) rfl
theorem lm_X4_79 : Cond.methodLink RX4 79 yX4_solve ∈ Tw := tt_4 207 (by decide +kernel) rfl
theorem lm_X4_86 : Cond.methodLink RX4 86 yJ6_bitCount_0f7a4 ∈ Tw := tt_4 201 (by decide +kernel) rfl
theorem lm_X4_91 : Cond.methodLink RX4 91 yX4_withinLimits ∈ Tw := tt_4 202 (by decide +kernel) rfl
theorem lm_X4_95 : Cond.methodLink RX4 95 yX4_commonDivisor ∈ Tw := tt_3 119 (by decide +kernel) rfl
theorem lm_X6_30 : Cond.methodLink RX6 30 yJ6_bitCount_0f7a4 ∈ Tw := tt_4 101 (by decide +kernel) rfl
theorem lm_X6_43 : Cond.methodLink RX6 43 yX6_isThin ∈ Tw := tt_4 102 (by decide +kernel) rfl
theorem lm_X6_51 : Cond.methodLink RX6 51 yJ9_min_7cf53 ∈ Tw := tt_4 136 (by decide +kernel) rfl
theorem lm_X6_60 : Cond.methodLink RX6 60 yJ7_fill_53178 ∈ Tw := tt_4 137 (by decide +kernel) rfl
theorem lm_X6_66 : Cond.methodLink RX6 66 yX6_leastDepthAbove ∈ Tw := tt_4 140 (by decide +kernel) rfl
theorem lm_X6_69 : Cond.methodLink RX6 69 yX6_leads ∈ Tw := tt_4 144 (by decide +kernel) rfl
theorem lm_X6_73 : Cond.methodLink RX6 73 yX6_steps ∈ Tw := tt_4 148 (by decide +kernel) rfl
theorem lm_X6_76 : Cond.methodLink RX6 76 yX6_isNearerGoal ∈ Tw := tt_4 156 (by decide +kernel) rfl
theorem lm_X6_79 : Cond.methodLink RX6 79 yX6_goal ∈ Tw := tt_4 183 (by decide +kernel) rfl
theorem lm_X6_82 : Cond.methodLink RX6 82 yX6_leastAhead ∈ Tw := tt_4 184 (by decide +kernel) rfl
theorem lm_X7_103 : Cond.methodLink RX7 103 yX7_isKind ∈ Tw := tt_2 179 (by decide +kernel) rfl
theorem lm_X7_115 : Cond.methodLink RX7 115 yX7_isPly ∈ Tw := tt_2 203 (by decide +kernel) rfl
theorem lm_X7_129 : Cond.methodLink RX7 129 yX7_isAngle ∈ Tw := tt_2 222 (by decide +kernel) rfl
theorem lm_X7_143 : Cond.methodLink RX7 143 yX7_isAxis ∈ Tw := tt_2 231 (by decide +kernel) rfl
theorem lm_X7_177 : Cond.methodLink RX7 177 yX7_areLoads ∈ Tw := tt_3 77 (by decide +kernel) rfl
theorem lm_X7_181 : Cond.methodLink RX7 181 yX7_yielding ∈ Tw := tt_3 84 (by decide +kernel) rfl
theorem lm_X7_189 : Cond.methodLink RX7 189 yX7_isFlat ∈ Tw := tt_3 101 (by decide +kernel) rfl
theorem lm_X7_221 : Cond.methodLink RX7 221 yJ9_abs_067f4 ∈ Tw := tt_3 152 (by decide +kernel) rfl
theorem lm_X7_239 : Cond.methodLink RX7 239 yX7_isMask ∈ Tw := tt_3 178 (by decide +kernel) rfl
theorem lm_X7_290 : Cond.methodLink RX7 290 yX7_isStride ∈ Tw := tt_4 129 (by decide +kernel) rfl
theorem lm_X7_299 : Cond.methodLink RX7 299 yJ6_bitCount_0f7a4 ∈ Tw := tt_4 160 (by decide +kernel) rfl
theorem lm_X7_307 : Cond.methodLink RX7 307 yX7_isSet ∈ Tw := tt_4 170 (by decide +kernel) rfl
theorem lm_X7_313 : Cond.methodLink RX7 313 yX7_frailSet ∈ Tw := tt_4 192 (by decide +kernel) rfl
theorem lm_X7_319 : Cond.methodLink RX7 319 yX7_leftWithout ∈ Tw := tt_4 213 (by decide +kernel) rfl
theorem lm_X7_342 : Cond.methodLink RX7 342 yX7_stayWith ∈ Tw := tt_5 17 (by decide +kernel) rfl
theorem lm_X7_348 : Cond.methodLink RX7 348 yX7_relay ∈ Tw := tt_5 30 (by decide +kernel) rfl
theorem lm_X7_357 : Cond.methodLink RX7 357 yX7_isImage ∈ Tw := tt_5 69 (by decide +kernel) rfl
theorem lm_X7_360 : Cond.methodLink RX7 360 yX7_imagesBar ∈ Tw := tt_5 85 (by decide +kernel) rfl
theorem lm_X7_373 : Cond.methodLink RX7 373 yX7_isLoad ∈ Tw := tt_3 81 (by decide +kernel) rfl
theorem lm_X8_104 : Cond.methodLink RX8 104 yJ9_min_7cf53 ∈ Tw := tt_6 15 (by decide +kernel) rfl
theorem lm_X8_115 : Cond.methodLink RX8 115 yJ0_length_8abf5 ∈ Tw := tt_6 29 (by decide +kernel) rfl
theorem lm_X8_121 : Cond.methodLink RX8 121 yJ0_charAt_5068e ∈ Tw := tt_6 30 (by decide +kernel) rfl
theorem lm_X8_125 : Cond.methodLink RX8 125 yX8_faults ∈ Tw := tt_6 35 (by decide +kernel) rfl
theorem lm_X8_129 : Cond.methodLink RX8 129 yX8_next ∈ Tw := tt_6 6 (by decide +kernel) rfl
theorem lm_X8_132 : Cond.methodLink RX8 132 yX8_passes ∈ Tw := tt_6 31 (by decide +kernel) rfl
theorem lm_X8_136 : Cond.methodLink RX8 136 yX8_isWord ∈ Tw := tt_6 25 (by decide +kernel) rfl
theorem lm_X8_140 : Cond.methodLink RX8 140 yX8_reads ∈ Tw := tt_6 44 (by decide +kernel) rfl
theorem lm_X8_147 : Cond.methodLink RX8 147 yX8_readsNamed ∈ Tw := tt_6 40 (by decide +kernel) rfl
theorem lm_X8_155 : Cond.methodLink RX8 155 yX8_kindHere ∈ Tw := tt_6 54 (by decide +kernel) rfl
theorem lm_X8_176 : Cond.methodLink RX8 176 yX8_readsPlate ∈ Tw := tt_6 20 (by decide +kernel) rfl
theorem lm_X8_179 : Cond.methodLink RX8 179 yX8_readsKind ∈ Tw := tt_6 49 (by decide +kernel) rfl
theorem lm_X8_182 : Cond.methodLink RX8 182 yX8_readsPly ∈ Tw := tt_6 63 (by decide +kernel) rfl
theorem lm_X8_185 : Cond.methodLink RX8 185 yX8_readsAll ∈ Tw := tt_6 16 (by decide +kernel) rfl
theorem lm_X8_193 : Cond.methodLink RX8 193 yX8_isKind ∈ Tw := tt_6 83 (by decide +kernel) rfl
theorem lm_X8_199 : Cond.methodLink RX8 199 yX8_isPly ∈ Tw := tt_6 92 (by decide +kernel) rfl
theorem lm_X8_212 : Cond.methodLink RX8 212 yX8_has ∈ Tw := tt_6 120 (by decide +kernel) rfl
theorem lm_X8_215 : Cond.methodLink RX8 215 yX8_entry ∈ Tw := tt_6 123 (by decide +kernel) rfl
theorem lm_X8_219 : Cond.methodLink RX8 219 yX8_sum ∈ Tw := tt_6 116 (by decide +kernel) rfl
theorem lm_X8_222 : Cond.methodLink RX8 222 yX8_isMirrored ∈ Tw := tt_6 131 (by decide +kernel) rfl
theorem lm_X8_226 : Cond.methodLink RX8 226 yX8_warpHere ∈ Tw := tt_6 135 (by decide +kernel) rfl
theorem lm_X8_230 : Cond.methodLink RX8 230 yX8_twistHere ∈ Tw := tt_6 140 (by decide +kernel) rfl
theorem lm_X8_233 : Cond.methodLink RX8 233 yJ9_max_7cf53 ∈ Tw := tt_6 165 (by decide +kernel) rfl
theorem lm_X8_236 : Cond.methodLink RX8 236 yX8_is ∈ Tw := tt_6 106 (by decide +kernel) rfl
theorem lm_X8_243 : Cond.methodLink RX8 243 yX8_laysPlate ∈ Tw := tt_6 112 (by decide +kernel) rfl
theorem lm_X8_246 : Cond.methodLink RX8 246 yX8_isBalanced ∈ Tw := tt_6 144 (by decide +kernel) rfl
theorem lm_X8_251 : Cond.methodLink RX8 251 yX8_longestRun ∈ Tw := tt_6 161 (by decide +kernel) rfl
theorem lm_X8_254 : Cond.methodLink RX8 254 yX8_likesHere ∈ Tw := tt_6 170 (by decide +kernel) rfl
theorem lm_X8_257 : Cond.methodLink RX8 257 yX8_minor ∈ Tw := tt_6 195 (by decide +kernel) rfl
theorem lm_X8_260 : Cond.methodLink RX8 260 yX8_detOf ∈ Tw := tt_6 191 (by decide +kernel) rfl
theorem lm_X8_272 : Cond.methodLink RX8 272 yX8_areLoads ∈ Tw := tt_6 182 (by decide +kernel) rfl
theorem lm_X8_276 : Cond.methodLink RX8 276 yX8_laysStrains ∈ Tw := tt_6 187 (by decide +kernel) rfl
theorem lm_X8_282 : Cond.methodLink RX8 282 yX8_part ∈ Tw := tt_6 200 (by decide +kernel) rfl
theorem lm_X8_286 : Cond.methodLink RX8 286 yX8_strained ∈ Tw := tt_6 178 (by decide +kernel) rfl
theorem lm_X8_292 : Cond.methodLink RX8 292 yX8_along ∈ Tw := tt_6 215 (by decide +kernel) rfl
theorem lm_X8_295 : Cond.methodLink RX8 295 yX8_limitOf ∈ Tw := tt_6 219 (by decide +kernel) rfl
theorem lm_X8_3 : Cond.methodLink RX8 3 yJ9_abs_067f4 ∈ Tw := tt_6 139 (by decide +kernel) rfl
theorem lm_X8_300 : Cond.methodLink RX8 300 yX8_isWithin ∈ Tw := tt_6 232 (by decide +kernel) rfl
theorem lm_X8_303 : Cond.methodLink RX8 303 yJ6_bitCount_0f7a4 ∈ Tw := tt_7 4 (by decide +kernel) rfl
theorem lm_X8_309 : Cond.methodLink RX8 309 yX8_weakest ∈ Tw := tt_7 0 (by decide +kernel) rfl
theorem lm_X8_313 : Cond.methodLink RX8 313 yX8_lostBy ∈ Tw := tt_7 17 (by decide +kernel) rfl
theorem lm_X8_332 : Cond.methodLink RX8 332 yX8_farFromPlate ∈ Tw := tt_7 53 (by decide +kernel) rfl
theorem lm_X8_335 : Cond.methodLink RX8 335 yX8_finds ∈ Tw := tt_7 57 (by decide +kernel) rfl
theorem lm_X8_339 : Cond.methodLink RX8 339 yX8_valueBy ∈ Tw := tt_7 61 (by decide +kernel) rfl
theorem lm_X8_342 : Cond.methodLink RX8 342 yX8_notes ∈ Tw := tt_7 65 (by decide +kernel) rfl
theorem lm_X8_348 : Cond.methodLink RX8 348 yX8_isSo ∈ Tw := tt_7 45 (by decide +kernel) rfl
theorem lm_X8_351 : Cond.methodLink RX8 351 yX8_visits ∈ Tw := tt_7 49 (by decide +kernel) rfl
theorem lm_X8_354 : Cond.methodLink RX8 354 yX8_places ∈ Tw := tt_7 41 (by decide +kernel) rfl
theorem lm_X8_358 : Cond.methodLink RX8 358 yX8_isMask ∈ Tw := tt_7 33 (by decide +kernel) rfl
theorem lm_X8_361 : Cond.methodLink RX8 361 yX8_isAsked ∈ Tw := tt_7 29 (by decide +kernel) rfl
theorem lm_X8_364 : Cond.methodLink RX8 364 yX8_goes ∈ Tw := tt_7 37 (by decide +kernel) rfl
theorem lm_X8_367 : Cond.methodLink RX8 367 yX8_isBest ∈ Tw := tt_7 85 (by decide +kernel) rfl
theorem lm_X8_380 : Cond.methodLink RX8 380 yX8_laysSet ∈ Tw := tt_7 121 (by decide +kernel) rfl
theorem lm_X8_383 : Cond.methodLink RX8 383 yX8_isThin ∈ Tw := tt_7 117 (by decide +kernel) rfl
theorem lm_X8_386 : Cond.methodLink RX8 386 yX8_thinOf ∈ Tw := tt_7 113 (by decide +kernel) rfl
theorem lm_X8_389 : Cond.methodLink RX8 389 yX8_allBits ∈ Tw := tt_7 141 (by decide +kernel) rfl
theorem lm_X8_392 : Cond.methodLink RX8 392 yX8_isStep ∈ Tw := tt_7 145 (by decide +kernel) rfl
theorem lm_X8_395 : Cond.methodLink RX8 395 yX8_isWay ∈ Tw := tt_7 133 (by decide +kernel) rfl
theorem lm_X8_398 : Cond.methodLink RX8 398 yX8_laysSteps ∈ Tw := tt_7 137 (by decide +kernel) rfl
theorem lm_X8_401 : Cond.methodLink RX8 401 yX8_goal ∈ Tw := tt_7 149 (by decide +kernel) rfl
theorem lm_X8_404 : Cond.methodLink RX8 404 yX8_isImage ∈ Tw := tt_7 173 (by decide +kernel) rfl
theorem lm_X8_407 : Cond.methodLink RX8 407 yX8_manyIn ∈ Tw := tt_7 180 (by decide +kernel) rfl
theorem lm_X8_410 : Cond.methodLink RX8 410 yX8_typeIn ∈ Tw := tt_7 184 (by decide +kernel) rfl
theorem lm_X8_413 : Cond.methodLink RX8 413 yX8_why ∈ Tw := tt_7 169 (by decide +kernel) rfl
theorem lm_X8_416 : Cond.methodLink RX8 416 yX8_commonOf ∈ Tw := tt_7 176 (by decide +kernel) rfl
theorem lm_X8_419 : Cond.methodLink RX8 419 yX8_upsetAt ∈ Tw := tt_7 200 (by decide +kernel) rfl
theorem lm_X8_422 : Cond.methodLink RX8 422 yX8_whirled ∈ Tw := tt_7 204 (by decide +kernel) rfl
theorem lm_X8_425 : Cond.methodLink RX8 425 yX8_isFull ∈ Tw := tt_7 211 (by decide +kernel) rfl
theorem lm_X8_428 : Cond.methodLink RX8 428 yX8_keeps ∈ Tw := tt_7 215 (by decide +kernel) rfl
theorem lm_X8_431 : Cond.methodLink RX8 431 yX8_stays ∈ Tw := tt_7 231 (by decide +kernel) rfl
theorem lm_X8_434 : Cond.methodLink RX8 434 yX8_becomesRow ∈ Tw := tt_8 3 (by decide +kernel) rfl
theorem lm_X8_439 : Cond.methodLink RX8 439 yX8_goesBack ∈ Tw := tt_8 32 (by decide +kernel) rfl
theorem lm_X8_83 : Cond.methodLink RX8 83 yX8_in ∈ Tw := tt_5 239 (by decide +kernel) rfl
theorem lm_X8_9 : Cond.methodLink RX8 9 yX8_common ∈ Tw := tt_6 203 (by decide +kernel) rfl
theorem lm_X8_90 : Cond.methodLink RX8 90 yX8_isAt ∈ Tw := tt_6 10 (by decide +kernel) rfl
theorem nf_0 : ("PlyStacker", 59, "PlyStacker$Tape", "size", "I", "PlyStacker") ∈ nestF := List.mem_of_getElem? (i := 0) (by decide +kernel)
theorem nf_1 : ("PlyStacker$Reader", 153, "PlyStacker$Plate", "rows", "[I", "PlyStacker") ∈ nestF := List.mem_of_getElem? (i := 1) (by decide +kernel)
theorem nf_10 : ("PlyStacker", 100, "PlyStacker$Plate", "acts", "I", "PlyStacker") ∈ nestF := List.mem_of_getElem? (i := 10) (by decide +kernel)
theorem nf_11 : ("PlyStacker", 71, "PlyStacker$Reader", "draft", "LPlyStacker$Plate;", "PlyStacker") ∈ nestF := List.mem_of_getElem? (i := 11) (by decide +kernel)
theorem nf_12 : ("PlyStacker", 84, "PlyStacker$Reader", "fault", "I", "PlyStacker") ∈ nestF := List.mem_of_getElem? (i := 12) (by decide +kernel)
theorem nf_13 : ("PlyStacker", 87, "PlyStacker$Reader", "place", "I", "PlyStacker") ∈ nestF := List.mem_of_getElem? (i := 13) (by decide +kernel)
theorem nf_14 : ("PlyStacker", 192, "PlyStacker$Stress", "det", "J", "PlyStacker") ∈ nestF := List.mem_of_getElem? (i := 14) (by decide +kernel)
theorem nf_2 : ("PlyStacker$Reader", 147, "PlyStacker$Plate", "sizes", "[I", "PlyStacker") ∈ nestF := List.mem_of_getElem? (i := 2) (by decide +kernel)
theorem nf_3 : ("PlyStacker$Reader", 109, "PlyStacker$Plate", "rooms", "[I", "PlyStacker") ∈ nestF := List.mem_of_getElem? (i := 3) (by decide +kernel)
theorem nf_4 : ("PlyStacker$Reader", 55, "PlyStacker$Plate", "told", "Z", "PlyStacker") ∈ nestF := List.mem_of_getElem? (i := 4) (by decide +kernel)
theorem nf_5 : ("PlyStacker", 139, "PlyStacker$Plate", "told", "Z", "PlyStacker") ∈ nestF := List.mem_of_getElem? (i := 5) (by decide +kernel)
theorem nf_6 : ("PlyStacker$Reader", 52, "PlyStacker$Plate", "lines", "I", "PlyStacker") ∈ nestF := List.mem_of_getElem? (i := 6) (by decide +kernel)
theorem nf_7 : ("PlyStacker", 81, "PlyStacker$Plate", "lines", "I", "PlyStacker") ∈ nestF := List.mem_of_getElem? (i := 7) (by decide +kernel)
theorem nf_8 : ("PlyStacker", 94, "PlyStacker$Plate", "kinds", "I", "PlyStacker") ∈ nestF := List.mem_of_getElem? (i := 8) (by decide +kernel)
theorem nf_9 : ("PlyStacker$Reader", 116, "PlyStacker$Plate", "kinds", "I", "PlyStacker") ∈ nestF := List.mem_of_getElem? (i := 9) (by decide +kernel)
theorem nm_0 : ("PlyStacker", 11, yX5_init, "PlyStacker") ∈ nestM := List.mem_of_getElem? (i := 0) (by decide +kernel)
theorem nm_1 : ("PlyStacker", 20, yX2_init, "PlyStacker") ∈ nestM := List.mem_of_getElem? (i := 1) (by decide +kernel)
theorem nm_10 : ("PlyStacker$Reader", 62, yX5_classAt, "PlyStacker") ∈ nestM := List.mem_of_getElem? (i := 10) (by decide +kernel)
theorem nm_100 : ("PlyStacker", 345, yX3_chosen, "PlyStacker") ∈ nestM := List.mem_of_getElem? (i := 100) (by decide +kernel)
theorem nm_101 : ("PlyStacker", 351, yX3_whirled, "PlyStacker") ∈ nestM := List.mem_of_getElem? (i := 101) (by decide +kernel)
theorem nm_102 : ("PlyStacker", 354, yX3_overturned, "PlyStacker") ∈ nestM := List.mem_of_getElem? (i := 102) (by decide +kernel)
theorem nm_103 : ("PlyStacker", 363, yX1_isOfSamePlies, "PlyStacker") ∈ nestM := List.mem_of_getElem? (i := 103) (by decide +kernel)
theorem nm_104 : ("PlyStacker$Plate", 124, yX3_sorted, "PlyStacker") ∈ nestM := List.mem_of_getElem? (i := 104) (by decide +kernel)
theorem nm_105 : ("PlyStacker", 367, yX1_isPartOf, "PlyStacker") ∈ nestM := List.mem_of_getElem? (i := 105) (by decide +kernel)
theorem nm_106 : ("PlyStacker", 370, yX1_longestCommon, "PlyStacker") ∈ nestM := List.mem_of_getElem? (i := 106) (by decide +kernel)
theorem nm_11 : ("PlyStacker$Reader", 68, yX5_at, "PlyStacker") ∈ nestM := List.mem_of_getElem? (i := 11) (by decide +kernel)
theorem nm_12 : ("PlyStacker$Reader", 143, yX1_setNumber, "PlyStacker") ∈ nestM := List.mem_of_getElem? (i := 12) (by decide +kernel)
theorem nm_13 : ("PlyStacker$Reader", 139, yX1_fillCells, "PlyStacker") ∈ nestM := List.mem_of_getElem? (i := 13) (by decide +kernel)
theorem nm_14 : ("PlyStacker", 74, yX1_copy, "PlyStacker") ∈ nestM := List.mem_of_getElem? (i := 14) (by decide +kernel)
theorem nm_15 : ("PlyStacker", 78, yX0_forget, "PlyStacker") ∈ nestM := List.mem_of_getElem? (i := 15) (by decide +kernel)
theorem nm_16 : ("PlyStacker", 90, yX1_roomNow, "PlyStacker") ∈ nestM := List.mem_of_getElem? (i := 16) (by decide +kernel)
theorem nm_17 : ("PlyStacker", 97, yX1_plies, "PlyStacker") ∈ nestM := List.mem_of_getElem? (i := 17) (by decide +kernel)
theorem nm_18 : ("PlyStacker", 107, yX1_pliesOfKind, "PlyStacker") ∈ nestM := List.mem_of_getElem? (i := 18) (by decide +kernel)
theorem nm_19 : ("PlyStacker$Plate", 120, yX3_howMany, "PlyStacker") ∈ nestM := List.mem_of_getElem? (i := 19) (by decide +kernel)
theorem nm_2 : ("PlyStacker$Reader", 11, yX1_init, "PlyStacker") ∈ nestM := List.mem_of_getElem? (i := 2) (by decide +kernel)
theorem nm_20 : ("PlyStacker", 111, yX1_number, "PlyStacker") ∈ nestM := List.mem_of_getElem? (i := 20) (by decide +kernel)
theorem nm_21 : ("PlyStacker", 118, yX1_typeAt, "PlyStacker") ∈ nestM := List.mem_of_getElem? (i := 21) (by decide +kernel)
theorem nm_22 : ("PlyStacker$Plate", 58, yX3_typeAt, "PlyStacker") ∈ nestM := List.mem_of_getElem? (i := 22) (by decide +kernel)
theorem nm_23 : ("PlyStacker", 121, yX3_farOf, "PlyStacker") ∈ nestM := List.mem_of_getElem? (i := 23) (by decide +kernel)
theorem nm_24 : ("PlyStacker", 126, yX3_thickOf, "PlyStacker") ∈ nestM := List.mem_of_getElem? (i := 24) (by decide +kernel)
theorem nm_25 : ("PlyStacker", 132, yX1_row, "PlyStacker") ∈ nestM := List.mem_of_getElem? (i := 25) (by decide +kernel)
theorem nm_26 : ("PlyStacker", 135, yX3_howMany, "PlyStacker") ∈ nestM := List.mem_of_getElem? (i := 26) (by decide +kernel)
theorem nm_27 : ("PlyStacker", 148, yX1_total, "PlyStacker") ∈ nestM := List.mem_of_getElem? (i := 27) (by decide +kernel)
theorem nm_28 : ("PlyStacker$Plate", 84, yX3_thickOf, "PlyStacker") ∈ nestM := List.mem_of_getElem? (i := 28) (by decide +kernel)
theorem nm_29 : ("PlyStacker", 152, yX1_shape, "PlyStacker") ∈ nestM := List.mem_of_getElem? (i := 29) (by decide +kernel)
theorem nm_3 : ("PlyStacker", 29, yX1_init, "PlyStacker") ∈ nestM := List.mem_of_getElem? (i := 3) (by decide +kernel)
theorem nm_30 : ("PlyStacker$Plate", 98, yX3_isMirrored, "PlyStacker") ∈ nestM := List.mem_of_getElem? (i := 30) (by decide +kernel)
theorem nm_31 : ("PlyStacker", 155, yX1_isBalanced, "PlyStacker") ∈ nestM := List.mem_of_getElem? (i := 31) (by decide +kernel)
theorem nm_32 : ("PlyStacker", 158, yX1_warpWithout, "PlyStacker") ∈ nestM := List.mem_of_getElem? (i := 32) (by decide +kernel)
theorem nm_33 : ("PlyStacker", 164, yX1_twistNow, "PlyStacker") ∈ nestM := List.mem_of_getElem? (i := 33) (by decide +kernel)
theorem nm_34 : ("PlyStacker", 168, yX3_longestRun, "PlyStacker") ∈ nestM := List.mem_of_getElem? (i := 34) (by decide +kernel)
theorem nm_35 : ("PlyStacker", 171, yX3_firstRun, "PlyStacker") ∈ nestM := List.mem_of_getElem? (i := 35) (by decide +kernel)
theorem nm_36 : ("PlyStacker", 174, yX3_likeNeighbours, "PlyStacker") ∈ nestM := List.mem_of_getElem? (i := 36) (by decide +kernel)
theorem nm_37 : ("PlyStacker", 185, yX4_take, "PlyStacker") ∈ nestM := List.mem_of_getElem? (i := 37) (by decide +kernel)
theorem nm_38 : ("PlyStacker$Stress", 18, yX1_total, "PlyStacker") ∈ nestM := List.mem_of_getElem? (i := 38) (by decide +kernel)
theorem nm_39 : ("PlyStacker", 198, yX4_solve, "PlyStacker") ∈ nestM := List.mem_of_getElem? (i := 39) (by decide +kernel)
theorem nm_4 : ("PlyStacker", 40, yX0_init, "PlyStacker") ∈ nestM := List.mem_of_getElem? (i := 4) (by decide +kernel)
theorem nm_40 : ("PlyStacker", 202, yX4_part, "PlyStacker") ∈ nestM := List.mem_of_getElem? (i := 40) (by decide +kernel)
theorem nm_41 : ("PlyStacker", 205, yX4_inLowestTerms, "PlyStacker") ∈ nestM := List.mem_of_getElem? (i := 41) (by decide +kernel)
theorem nm_42 : ("PlyStacker", 211, yX4_weakest, "PlyStacker") ∈ nestM := List.mem_of_getElem? (i := 42) (by decide +kernel)
theorem nm_43 : ("PlyStacker$Stress", 61, yX1_plies, "PlyStacker") ∈ nestM := List.mem_of_getElem? (i := 43) (by decide +kernel)
theorem nm_44 : ("PlyStacker$Stress", 37, yX1_row, "PlyStacker") ∈ nestM := List.mem_of_getElem? (i := 44) (by decide +kernel)
theorem nm_45 : ("PlyStacker$Stress", 41, yX3_angleAt, "PlyStacker") ∈ nestM := List.mem_of_getElem? (i := 45) (by decide +kernel)
theorem nm_46 : ("PlyStacker$Stress", 57, yX1_limitAt, "PlyStacker") ∈ nestM := List.mem_of_getElem? (i := 46) (by decide +kernel)
theorem nm_47 : ("PlyStacker", 215, yX3_angleAt, "PlyStacker") ∈ nestM := List.mem_of_getElem? (i := 47) (by decide +kernel)
theorem nm_48 : ("PlyStacker", 218, yX4_along, "PlyStacker") ∈ nestM := List.mem_of_getElem? (i := 48) (by decide +kernel)
theorem nm_49 : ("PlyStacker", 227, yX4_bound, "PlyStacker") ∈ nestM := List.mem_of_getElem? (i := 49) (by decide +kernel)
theorem nm_5 : ("PlyStacker", 47, yX6_init, "PlyStacker") ∈ nestM := List.mem_of_getElem? (i := 5) (by decide +kernel)
theorem nm_50 : ("PlyStacker", 231, yX4_cofactor, "PlyStacker") ∈ nestM := List.mem_of_getElem? (i := 50) (by decide +kernel)
theorem nm_51 : ("PlyStacker", 235, yX4_greatestTimes, "PlyStacker") ∈ nestM := List.mem_of_getElem? (i := 51) (by decide +kernel)
theorem nm_52 : ("PlyStacker", 242, yX0_prepare, "PlyStacker") ∈ nestM := List.mem_of_getElem? (i := 52) (by decide +kernel)
theorem nm_53 : ("PlyStacker$Orders", 22, yX1_row, "PlyStacker") ∈ nestM := List.mem_of_getElem? (i := 53) (by decide +kernel)
theorem nm_54 : ("PlyStacker$Orders", 28, yX1_plies, "PlyStacker") ∈ nestM := List.mem_of_getElem? (i := 54) (by decide +kernel)
theorem nm_55 : ("PlyStacker$Orders", 31, yX3_sorted, "PlyStacker") ∈ nestM := List.mem_of_getElem? (i := 55) (by decide +kernel)
theorem nm_56 : ("PlyStacker$Orders", 46, yX1_roomNow, "PlyStacker") ∈ nestM := List.mem_of_getElem? (i := 56) (by decide +kernel)
theorem nm_57 : ("PlyStacker$Orders", 59, yX3_typeAt, "PlyStacker") ∈ nestM := List.mem_of_getElem? (i := 57) (by decide +kernel)
theorem nm_58 : ("PlyStacker$Orders", 88, yX3_isMirrored, "PlyStacker") ∈ nestM := List.mem_of_getElem? (i := 58) (by decide +kernel)
theorem nm_59 : ("PlyStacker$Orders", 92, yX1_isRowFlat, "PlyStacker") ∈ nestM := List.mem_of_getElem? (i := 59) (by decide +kernel)
theorem nm_6 : ("PlyStacker", 54, yX4_init, "PlyStacker") ∈ nestM := List.mem_of_getElem? (i := 6) (by decide +kernel)
theorem nm_60 : ("PlyStacker$Orders", 95, yX1_isRowStraight, "PlyStacker") ∈ nestM := List.mem_of_getElem? (i := 60) (by decide +kernel)
theorem nm_61 : ("PlyStacker$Orders", 75, yX3_angleAt, "PlyStacker") ∈ nestM := List.mem_of_getElem? (i := 61) (by decide +kernel)
theorem nm_62 : ("PlyStacker$Orders", 78, yX3_farOf, "PlyStacker") ∈ nestM := List.mem_of_getElem? (i := 62) (by decide +kernel)
theorem nm_63 : ("PlyStacker$Orders", 81, yX3_thickOf, "PlyStacker") ∈ nestM := List.mem_of_getElem? (i := 63) (by decide +kernel)
theorem nm_64 : ("PlyStacker$Orders", 85, yX1_cellAt, "PlyStacker") ∈ nestM := List.mem_of_getElem? (i := 64) (by decide +kernel)
theorem nm_65 : ("PlyStacker", 245, yX0_howMany, "PlyStacker") ∈ nestM := List.mem_of_getElem? (i := 65) (by decide +kernel)
theorem nm_66 : ("PlyStacker", 247, yX0_find, "PlyStacker") ∈ nestM := List.mem_of_getElem? (i := 66) (by decide +kernel)
theorem nm_67 : ("PlyStacker", 250, yX0_rowAt, "PlyStacker") ∈ nestM := List.mem_of_getElem? (i := 67) (by decide +kernel)
theorem nm_68 : ("PlyStacker", 253, yX3_typeAt, "PlyStacker") ∈ nestM := List.mem_of_getElem? (i := 68) (by decide +kernel)
theorem nm_69 : ("PlyStacker", 255, yX0_placeOf, "PlyStacker") ∈ nestM := List.mem_of_getElem? (i := 69) (by decide +kernel)
theorem nm_7 : ("PlyStacker", 63, yX5_add, "PlyStacker") ∈ nestM := List.mem_of_getElem? (i := 7) (by decide +kernel)
theorem nm_70 : ("PlyStacker", 258, yX0_bestIndex, "PlyStacker") ∈ nestM := List.mem_of_getElem? (i := 70) (by decide +kernel)
theorem nm_71 : ("PlyStacker$Orders", 109, yX3_likeNeighbours, "PlyStacker") ∈ nestM := List.mem_of_getElem? (i := 71) (by decide +kernel)
theorem nm_72 : ("PlyStacker$Orders", 112, yX1_totalOf, "PlyStacker") ∈ nestM := List.mem_of_getElem? (i := 72) (by decide +kernel)
theorem nm_73 : ("PlyStacker", 262, yX0_placeAt, "PlyStacker") ∈ nestM := List.mem_of_getElem? (i := 73) (by decide +kernel)
theorem nm_74 : ("PlyStacker", 267, yX0_merit, "PlyStacker") ∈ nestM := List.mem_of_getElem? (i := 74) (by decide +kernel)
theorem nm_75 : ("PlyStacker", 271, yX0_nearestIndex, "PlyStacker") ∈ nestM := List.mem_of_getElem? (i := 75) (by decide +kernel)
theorem nm_76 : ("PlyStacker$Orders", 120, yX3_unlikePlaces, "PlyStacker") ∈ nestM := List.mem_of_getElem? (i := 76) (by decide +kernel)
theorem nm_77 : ("PlyStacker", 274, yX3_unlikePlaces, "PlyStacker") ∈ nestM := List.mem_of_getElem? (i := 77) (by decide +kernel)
theorem nm_78 : ("PlyStacker", 277, yX0_unlikeBends, "PlyStacker") ∈ nestM := List.mem_of_getElem? (i := 78) (by decide +kernel)
theorem nm_79 : ("PlyStacker", 280, yX3_neighbourExchanges, "PlyStacker") ∈ nestM := List.mem_of_getElem? (i := 79) (by decide +kernel)
theorem nm_8 : ("PlyStacker", 67, yX2_read, "PlyStacker") ∈ nestM := List.mem_of_getElem? (i := 8) (by decide +kernel)
theorem nm_80 : ("PlyStacker", 283, yX6_thinnerSets, "PlyStacker") ∈ nestM := List.mem_of_getElem? (i := 80) (by decide +kernel)
theorem nm_81 : ("PlyStacker$Ways", 40, yX1_allPlies, "PlyStacker") ∈ nestM := List.mem_of_getElem? (i := 81) (by decide +kernel)
theorem nm_82 : ("PlyStacker$Ways", 15, yX1_row, "PlyStacker") ∈ nestM := List.mem_of_getElem? (i := 82) (by decide +kernel)
theorem nm_83 : ("PlyStacker$Ways", 21, yX1_plies, "PlyStacker") ∈ nestM := List.mem_of_getElem? (i := 83) (by decide +kernel)
theorem nm_84 : ("PlyStacker$Ways", 24, yX3_chosen, "PlyStacker") ∈ nestM := List.mem_of_getElem? (i := 84) (by decide +kernel)
theorem nm_85 : ("PlyStacker$Ways", 36, yX1_suits, "PlyStacker") ∈ nestM := List.mem_of_getElem? (i := 85) (by decide +kernel)
theorem nm_86 : ("PlyStacker$Plate", 111, yX3_longestRun, "PlyStacker") ∈ nestM := List.mem_of_getElem? (i := 86) (by decide +kernel)
theorem nm_87 : ("PlyStacker", 286, yX6_thinnerSet, "PlyStacker") ∈ nestM := List.mem_of_getElem? (i := 87) (by decide +kernel)
theorem nm_88 : ("PlyStacker", 293, yX6_explore, "PlyStacker") ∈ nestM := List.mem_of_getElem? (i := 88) (by decide +kernel)
theorem nm_89 : ("PlyStacker", 296, yX6_goal, "PlyStacker") ∈ nestM := List.mem_of_getElem? (i := 89) (by decide +kernel)
theorem nm_9 : ("PlyStacker$Reader", 39, yX1_clear, "PlyStacker") ∈ nestM := List.mem_of_getElem? (i := 9) (by decide +kernel)
theorem nm_90 : ("PlyStacker", 304, yX6_steps, "PlyStacker") ∈ nestM := List.mem_of_getElem? (i := 90) (by decide +kernel)
theorem nm_91 : ("PlyStacker", 339, yX1_allPlies, "PlyStacker") ∈ nestM := List.mem_of_getElem? (i := 91) (by decide +kernel)
theorem nm_92 : ("PlyStacker", 310, yX6_onTheWay, "PlyStacker") ∈ nestM := List.mem_of_getElem? (i := 92) (by decide +kernel)
theorem nm_93 : ("PlyStacker", 316, yX4_fewestLost, "PlyStacker") ∈ nestM := List.mem_of_getElem? (i := 93) (by decide +kernel)
theorem nm_94 : ("PlyStacker$Stress", 83, yX1_allPlies, "PlyStacker") ∈ nestM := List.mem_of_getElem? (i := 94) (by decide +kernel)
theorem nm_95 : ("PlyStacker", 322, yX4_withinLimits, "PlyStacker") ∈ nestM := List.mem_of_getElem? (i := 95) (by decide +kernel)
theorem nm_96 : ("PlyStacker", 326, yX1_isFull, "PlyStacker") ∈ nestM := List.mem_of_getElem? (i := 96) (by decide +kernel)
theorem nm_97 : ("PlyStacker", 329, yX3_with, "PlyStacker") ∈ nestM := List.mem_of_getElem? (i := 97) (by decide +kernel)
theorem nm_98 : ("PlyStacker", 332, yX1_act, "PlyStacker") ∈ nestM := List.mem_of_getElem? (i := 98) (by decide +kernel)
theorem nm_99 : ("PlyStacker", 335, yX3_inserted, "PlyStacker") ∈ nestM := List.mem_of_getElem? (i := 99) (by decide +kernel)
theorem uX0 : ∀ w ∈ u_ws RX0 TX0 7, w ∈ Tw := List.all_eq_true.mp (by decide +kernel : (u_ws RX0 TX0 7).all (fun w => decide (w ∈ Tw)) = true) |> fun h w hw => of_decide_eq_true (h w hw)
theorem uX1 : ∀ w ∈ u_ws RX1 TX1 9, w ∈ Tw := List.all_eq_true.mp (by decide +kernel : (u_ws RX1 TX1 9).all (fun w => decide (w ∈ Tw)) = true) |> fun h w hw => of_decide_eq_true (h w hw)
theorem uX2 : ∀ w ∈ u_ws RX2 TX2 9, w ∈ Tw := List.all_eq_true.mp (by decide +kernel : (u_ws RX2 TX2 9).all (fun w => decide (w ∈ Tw)) = true) |> fun h w hw => of_decide_eq_true (h w hw)
theorem uX4 : ∀ w ∈ u_ws RX4 TX4 3, w ∈ Tw := List.all_eq_true.mp (by decide +kernel : (u_ws RX4 TX4 3).all (fun w => decide (w ∈ Tw)) = true) |> fun h w hw => of_decide_eq_true (h w hw)
theorem uX5 : ∀ w ∈ u_ws RX5 TX5 2, w ∈ Tw := List.all_eq_true.mp (by decide +kernel : (u_ws RX5 TX5 2).all (fun w => decide (w ∈ Tw)) = true) |> fun h w hw => of_decide_eq_true (h w hw)
theorem uX6 : ∀ w ∈ u_ws RX6 TX6 3, w ∈ Tw := List.all_eq_true.mp (by decide +kernel : (u_ws RX6 TX6 3).all (fun w => decide (w ∈ Tw)) = true) |> fun h w hw => of_decide_eq_true (h w hw)
theorem uX7 : ∀ w ∈ u_ws RX7 TX7 7, w ∈ Tw := List.all_eq_true.mp (by decide +kernel : (u_ws RX7 TX7 7).all (fun w => decide (w ∈ Tw)) = true) |> fun h w hw => of_decide_eq_true (h w hw)
theorem uX8 : ∀ w ∈ u_ws RX8 TX8 36, w ∈ Tw := List.all_eq_true.mp (by decide +kernel : (u_ws RX8 TX8 36).all (fun w => decide (w ∈ Tw)) = true) |> fun h w hw => of_decide_eq_true (h w hw)
