theorem kmX7_alike : KM yX7_alike cX7_alike 4 (some .int) 2 := ⟨tt_5 84 (by decide +kernel) rfl, tt_1 1 (by decide +kernel) rfl, by decide⟩
theorem kmX7_anew : KM yX7_anew cX7_anew 2 (some .int) 0 := ⟨tt_5 64 (by decide +kernel) rfl, tt_1 1 (by decide +kernel) rfl, by decide⟩
theorem kmX7_back : KM yX7_back cX7_back 2 (some .int) 1 := ⟨tt_5 76 (by decide +kernel) rfl, tt_1 1 (by decide +kernel) rfl, by decide⟩
theorem kmX7_become : KM yX7_become cX7_become 4 (some .int) 2 := ⟨tt_5 29 (by decide +kernel) rfl, tt_1 1 (by decide +kernel) rfl, by decide⟩
theorem kmX7_bend : KM yX7_bend cX7_bend 6 (some .long) 5 := ⟨tt_3 125 (by decide +kernel) rfl, tt_1 1 (by decide +kernel) rfl, by decide⟩
theorem kmX7_best : KM yX7_best cX7_best 4 (some .int) 2 := ⟨tt_4 18 (by decide +kernel) rfl, tt_1 1 (by decide +kernel) rfl, by decide⟩
theorem kmX7_bestBy : KM yX7_bestBy cX7_bestBy 4 (some .long) 2 := ⟨tt_4 33 (by decide +kernel) rfl, tt_1 1 (by decide +kernel) rfl, by decide⟩
theorem kmX7_blend : KM yX7_blend cX7_blend 4 (some .int) 2 := ⟨tt_4 128 (by decide +kernel) rfl, tt_1 1 (by decide +kernel) rfl, by decide⟩
theorem kmX7_blends : KM yX7_blends cX7_blends 4 (some .int) 2 := ⟨tt_4 164 (by decide +kernel) rfl, tt_1 1 (by decide +kernel) rfl, by decide⟩
theorem kmX7_carries : KM yX7_carries cX7_carries 2 (some .int) 1 := ⟨tt_3 165 (by decide +kernel) rfl, tt_1 1 (by decide +kernel) rfl, by decide⟩
theorem kmX7_comes : KM yX7_comes cX7_comes 4 (some .int) 3 := ⟨tt_4 169 (by decide +kernel) rfl, tt_1 1 (by decide +kernel) rfl, by decide⟩
theorem kmX7_common : KM yX7_common cX7_common 4 (some .int) 2 := ⟨tt_5 112 (by decide +kernel) rfl, tt_1 1 (by decide +kernel) rfl, by decide⟩
theorem kmX7_count : KM yX7_count cX7_count 2 (some .int) 1 := ⟨tt_2 166 (by decide +kernel) rfl, tt_1 1 (by decide +kernel) rfl, by decide⟩
theorem kmX7_drop : KM yX7_drop cX7_drop 2 (some .int) 1 := ⟨tt_5 16 (by decide +kernel) rfl, tt_1 1 (by decide +kernel) rfl, by decide⟩
theorem kmX7_end : KM yX7_end cX7_end 2 (some .int) 1 := ⟨tt_1 221 (by decide +kernel) rfl, tt_1 1 (by decide +kernel) rfl, by decide⟩
theorem kmX7_even : KM yX7_even cX7_even 2 (some .int) 0 := ⟨tt_3 7 (by decide +kernel) rfl, tt_1 1 (by decide +kernel) rfl, by decide⟩
theorem kmX7_exchanges : KM yX7_exchanges cX7_exchanges 4 (some .int) 2 := ⟨tt_4 76 (by decide +kernel) rfl, tt_1 1 (by decide +kernel) rfl, by decide⟩
theorem kmX7_factor : KM yX7_factor cX7_factor 8 (some .long) 4 := ⟨tt_3 129 (by decide +kernel) rfl, tt_1 1 (by decide +kernel) rfl, by decide⟩
theorem kmX7_fault : KM yX7_fault cX7_fault 2 (some .int) 1 := ⟨tt_2 162 (by decide +kernel) rfl, tt_1 1 (by decide +kernel) rfl, by decide⟩
theorem kmX7_feed : KM yX7_feed cX7_feed 6 (some .int) 5 := ⟨tt_1 213 (by decide +kernel) rfl, tt_1 1 (by decide +kernel) rfl, by decide⟩
theorem kmX7_frail : KM yX7_frail cX7_frail 5 (some .int) 3 := ⟨tt_4 191 (by decide +kernel) rfl, tt_1 1 (by decide +kernel) rfl, by decide⟩
theorem kmX7_image : KM yX7_image cX7_image 2 (some .int) 1 := ⟨tt_5 68 (by decide +kernel) rfl, tt_1 1 (by decide +kernel) rfl, by decide⟩
theorem kmX7_keep : KM yX7_keep cX7_keep 3 (some .int) 1 := ⟨tt_5 25 (by decide +kernel) rfl, tt_1 1 (by decide +kernel) rfl, by decide⟩
theorem kmX7_kind : KM yX7_kind cX7_kind 3 (some .int) 2 := ⟨tt_2 178 (by decide +kernel) rfl, tt_1 1 (by decide +kernel) rfl, by decide⟩
theorem kmX7_likes : KM yX7_likes cX7_likes 1 (some .int) 0 := ⟨tt_3 69 (by decide +kernel) rfl, tt_1 1 (by decide +kernel) rfl, by decide⟩
theorem kmX7_lost : KM yX7_lost cX7_lost 3 (some .long) 2 := ⟨tt_4 212 (by decide +kernel) rfl, tt_1 1 (by decide +kernel) rfl, by decide⟩
theorem kmX7_many : KM yX7_many cX7_many 3 (some .int) 2 := ⟨tt_2 221 (by decide +kernel) rfl, tt_1 1 (by decide +kernel) rfl, by decide⟩
theorem kmX7_modulus : KM yX7_modulus cX7_modulus 5 (some .long) 2 := ⟨tt_3 160 (by decide +kernel) rfl, tt_1 1 (by decide +kernel) rfl, by decide⟩
theorem kmX7_nearest : KM yX7_nearest cX7_nearest 3 (some .int) 1 := ⟨tt_4 39 (by decide +kernel) rfl, tt_1 1 (by decide +kernel) rfl, by decide⟩
theorem kmX7_nearestAt : KM yX7_nearestAt cX7_nearestAt 3 (some .int) 1 := ⟨tt_4 51 (by decide +kernel) rfl, tt_1 1 (by decide +kernel) rfl, by decide⟩
theorem kmX7_order : KM yX7_order cX7_order 5 (some .int) 3 := ⟨tt_3 236 (by decide +kernel) rfl, tt_1 1 (by decide +kernel) rfl, by decide⟩
theorem kmX7_orders : KM yX7_orders cX7_orders 2 (some .int) 1 := ⟨tt_3 177 (by decide +kernel) rfl, tt_1 1 (by decide +kernel) rfl, by decide⟩
theorem kmX7_partOf : KM yX7_partOf cX7_partOf 4 (some .int) 2 := ⟨tt_5 97 (by decide +kernel) rfl, tt_1 1 (by decide +kernel) rfl, by decide⟩
theorem kmX7_plate : KM yX7_plate cX7_plate 2 (some .int) 0 := ⟨tt_1 225 (by decide +kernel) rfl, tt_1 1 (by decide +kernel) rfl, by decide⟩
theorem kmX7_ply : KM yX7_ply cX7_ply 4 (some .int) 2 := ⟨tt_2 202 (by decide +kernel) rfl, tt_1 1 (by decide +kernel) rfl, by decide⟩
theorem kmX7_put : KM yX7_put cX7_put 5 (some .int) 3 := ⟨tt_5 9 (by decide +kernel) rfl, tt_1 1 (by decide +kernel) rfl, by decide⟩
theorem kmX7_rank : KM yX7_rank cX7_rank 2 (some .int) 1 := ⟨tt_4 9 (by decide +kernel) rfl, tt_1 1 (by decide +kernel) rfl, by decide⟩
theorem kmX7_room : KM yX7_room cX7_room 2 (some .int) 1 := ⟨tt_5 37 (by decide +kernel) rfl, tt_1 1 (by decide +kernel) rfl, by decide⟩
theorem kmX7_run : KM yX7_run cX7_run 3 (some .int) 1 := ⟨tt_3 53 (by decide +kernel) rfl, tt_1 1 (by decide +kernel) rfl, by decide⟩
theorem kmX7_spared : KM yX7_spared cX7_spared 6 (some .int) 3 := ⟨tt_4 224 (by decide +kernel) rfl, tt_1 1 (by decide +kernel) rfl, by decide⟩
theorem kmX7_step : KM yX7_step cX7_step 4 (some .int) 3 := ⟨tt_4 178 (by decide +kernel) rfl, tt_1 1 (by decide +kernel) rfl, by decide⟩
theorem kmX7_stiff : KM yX7_stiff cX7_stiff 4 (some .long) 3 := ⟨tt_2 230 (by decide +kernel) rfl, tt_1 1 (by decide +kernel) rfl, by decide⟩
theorem kmX7_strain : KM yX7_strain cX7_strain 6 (some .long) 5 := ⟨tt_3 76 (by decide +kernel) rfl, tt_1 1 (by decide +kernel) rfl, by decide⟩
theorem kmX7_swap : KM yX7_swap cX7_swap 6 (some .int) 2 := ⟨tt_4 229 (by decide +kernel) rfl, tt_1 1 (by decide +kernel) rfl, by decide⟩
theorem kmX7_thin : KM yX7_thin cX7_thin 4 (some .int) 3 := ⟨tt_4 120 (by decide +kernel) rfl, tt_1 1 (by decide +kernel) rfl, by decide⟩
theorem kmX7_thinner : KM yX7_thinner cX7_thinner 3 (some .int) 2 := ⟨tt_4 92 (by decide +kernel) rfl, tt_1 1 (by decide +kernel) rfl, by decide⟩
theorem kmX7_turn : KM yX7_turn cX7_turn 5 (some .int) 2 := ⟨tt_5 5 (by decide +kernel) rfl, tt_1 1 (by decide +kernel) rfl, by decide⟩
theorem kmX7_turned : KM yX7_turned cX7_turned 6 (some .int) 1 := ⟨tt_5 80 (by decide +kernel) rfl, tt_1 1 (by decide +kernel) rfl, by decide⟩
theorem kmX7_twist : KM yX7_twist cX7_twist 1 (some .long) 0 := ⟨tt_3 45 (by decide +kernel) rfl, tt_1 1 (by decide +kernel) rfl, by decide⟩
theorem kmX7_undo : KM yX7_undo cX7_undo 1 (some .int) 0 := ⟨tt_5 60 (by decide +kernel) rfl, tt_1 1 (by decide +kernel) rfl, by decide⟩
theorem kmX7_unlike : KM yX7_unlike cX7_unlike 2 (some .int) 1 := ⟨tt_4 55 (by decide +kernel) rfl, tt_1 1 (by decide +kernel) rfl, by decide⟩
theorem kmX7_upset : KM yX7_upset cX7_upset 1 (some .int) 0 := ⟨tt_5 51 (by decide +kernel) rfl, tt_1 1 (by decide +kernel) rfl, by decide⟩
theorem kmX7_warp : KM yX7_warp cX7_warp 1 (some .long) 0 := ⟨tt_3 32 (by decide +kernel) rfl, tt_1 1 (by decide +kernel) rfl, by decide⟩
theorem kmX7_whirl : KM yX7_whirl cX7_whirl 3 (some .int) 1 := ⟨tt_5 41 (by decide +kernel) rfl, tt_1 1 (by decide +kernel) rfl, by decide⟩
theorem kmX7_worst : KM yX7_worst cX7_worst 10 (some .int) 1 := ⟨tt_4 220 (by decide +kernel) rfl, tt_1 1 (by decide +kernel) rfl, by decide⟩
theorem kmX8_alike : KM yX8_alike cX8_alike 7 (some .int) 2 := ⟨tt_7 195 (by decide +kernel) rfl, tt_1 8 (by decide +kernel) rfl, by decide⟩
theorem kmX8_anew : KM yX8_anew cX8_anew 2 (some .int) 0 := ⟨tt_8 39 (by decide +kernel) rfl, tt_1 8 (by decide +kernel) rfl, by decide⟩
theorem kmX8_back : KM yX8_back cX8_back 3 (some .int) 1 := ⟨tt_8 27 (by decide +kernel) rfl, tt_1 8 (by decide +kernel) rfl, by decide⟩
theorem kmX8_become : KM yX8_become cX8_become 4 (some .int) 2 := ⟨tt_8 2 (by decide +kernel) rfl, tt_1 8 (by decide +kernel) rfl, by decide⟩
theorem kmX8_bend : KM yX8_bend cX8_bend 6 (some .long) 5 := ⟨tt_6 209 (by decide +kernel) rfl, tt_1 8 (by decide +kernel) rfl, by decide⟩
theorem kmX8_best : KM yX8_best cX8_best 3 (some .int) 2 := ⟨tt_7 84 (by decide +kernel) rfl, tt_1 8 (by decide +kernel) rfl, by decide⟩
theorem kmX8_bestBy : KM yX8_bestBy cX8_bestBy 3 (some .long) 2 := ⟨tt_7 92 (by decide +kernel) rfl, tt_1 8 (by decide +kernel) rfl, by decide⟩
theorem kmX8_blend : KM yX8_blend cX8_blend 3 (some .int) 2 := ⟨tt_7 132 (by decide +kernel) rfl, tt_1 8 (by decide +kernel) rfl, by decide⟩
theorem kmX8_blends : KM yX8_blends cX8_blends 3 (some .int) 2 := ⟨tt_7 156 (by decide +kernel) rfl, tt_1 8 (by decide +kernel) rfl, by decide⟩
theorem kmX8_carries : KM yX8_carries cX8_carries 3 (some .int) 1 := ⟨tt_7 12 (by decide +kernel) rfl, tt_1 8 (by decide +kernel) rfl, by decide⟩
theorem kmX8_comes : KM yX8_comes cX8_comes 4 (some .int) 3 := ⟨tt_7 160 (by decide +kernel) rfl, tt_1 8 (by decide +kernel) rfl, by decide⟩
theorem kmX8_common_ : KM yX8_common_ cX8_common_ 4 (some .int) 2 := ⟨tt_7 191 (by decide +kernel) rfl, tt_1 8 (by decide +kernel) rfl, by decide⟩
theorem kmX8_count : KM yX8_count cX8_count 2 (some .int) 1 := ⟨tt_6 78 (by decide +kernel) rfl, tt_1 8 (by decide +kernel) rfl, by decide⟩
theorem kmX8_drop : KM yX8_drop cX8_drop 2 (some .int) 1 := ⟨tt_7 230 (by decide +kernel) rfl, tt_1 8 (by decide +kernel) rfl, by decide⟩
theorem kmX8_end : KM yX8_end cX8_end 2 (some .int) 1 := ⟨tt_5 238 (by decide +kernel) rfl, tt_1 8 (by decide +kernel) rfl, by decide⟩
theorem kmX8_even : KM yX8_even cX8_even 1 (some .int) 0 := ⟨tt_6 130 (by decide +kernel) rfl, tt_1 8 (by decide +kernel) rfl, by decide⟩
theorem kmX8_exchanges : KM yX8_exchanges cX8_exchanges 8 (some .int) 2 := ⟨tt_7 108 (by decide +kernel) rfl, tt_1 8 (by decide +kernel) rfl, by decide⟩
theorem kmX8_factor : KM yX8_factor cX8_factor 7 (some .long) 4 := ⟨tt_6 213 (by decide +kernel) rfl, tt_1 8 (by decide +kernel) rfl, by decide⟩
theorem kmX8_fault : KM yX8_fault cX8_fault 2 (some .int) 1 := ⟨tt_6 74 (by decide +kernel) rfl, tt_1 8 (by decide +kernel) rfl, by decide⟩
theorem kmX8_feed : KM yX8_feed cX8_feed 8 (some .int) 5 := ⟨tt_5 234 (by decide +kernel) rfl, tt_1 8 (by decide +kernel) rfl, by decide⟩
theorem kmX8_frail : KM yX8_frail cX8_frail 4 (some .int) 3 := ⟨tt_6 239 (by decide +kernel) rfl, tt_1 8 (by decide +kernel) rfl, by decide⟩
theorem kmX8_frailSet : KM yX8_frailSet cX8_frailSet 4 (some .int) 3 := ⟨tt_7 8 (by decide +kernel) rfl, tt_1 8 (by decide +kernel) rfl, by decide⟩
theorem kmX8_image : KM yX8_image cX8_image 3 (some .int) 1 := ⟨tt_8 23 (by decide +kernel) rfl, tt_1 8 (by decide +kernel) rfl, by decide⟩
theorem kmX8_keep : KM yX8_keep cX8_keep 3 (some .int) 1 := ⟨tt_7 238 (by decide +kernel) rfl, tt_1 8 (by decide +kernel) rfl, by decide⟩
theorem kmX8_kind : KM yX8_kind cX8_kind 5 (some .int) 2 := ⟨tt_6 82 (by decide +kernel) rfl, tt_1 8 (by decide +kernel) rfl, by decide⟩
theorem kmX8_likes : KM yX8_likes cX8_likes 1 (some .int) 0 := ⟨tt_6 169 (by decide +kernel) rfl, tt_1 8 (by decide +kernel) rfl, by decide⟩
theorem kmX8_lost : KM yX8_lost cX8_lost 3 (some .long) 2 := ⟨tt_7 16 (by decide +kernel) rfl, tt_1 8 (by decide +kernel) rfl, by decide⟩
theorem kmX8_many : KM yX8_many cX8_many 5 (some .int) 2 := ⟨tt_6 100 (by decide +kernel) rfl, tt_1 8 (by decide +kernel) rfl, by decide⟩
theorem kmX8_modulus : KM yX8_modulus cX8_modulus 5 (some .long) 2 := ⟨tt_6 227 (by decide +kernel) rfl, tt_1 8 (by decide +kernel) rfl, by decide⟩
theorem kmX8_nearest : KM yX8_nearest cX8_nearest 2 (some .int) 1 := ⟨tt_7 96 (by decide +kernel) rfl, tt_1 8 (by decide +kernel) rfl, by decide⟩
theorem kmX8_nearestAt : KM yX8_nearestAt cX8_nearestAt 2 (some .int) 1 := ⟨tt_7 100 (by decide +kernel) rfl, tt_1 8 (by decide +kernel) rfl, by decide⟩
theorem kmX8_order : KM yX8_order cX8_order 4 (some .int) 3 := ⟨tt_7 76 (by decide +kernel) rfl, tt_1 8 (by decide +kernel) rfl, by decide⟩
theorem kmX8_orders : KM yX8_orders cX8_orders 2 (some .int) 1 := ⟨tt_7 28 (by decide +kernel) rfl, tt_1 8 (by decide +kernel) rfl, by decide⟩
theorem kmX8_partOf : KM yX8_partOf cX8_partOf 4 (some .int) 2 := ⟨tt_7 168 (by decide +kernel) rfl, tt_1 8 (by decide +kernel) rfl, by decide⟩
theorem kmX8_plate : KM yX8_plate cX8_plate 2 (some .int) 0 := ⟨tt_6 5 (by decide +kernel) rfl, tt_1 8 (by decide +kernel) rfl, by decide⟩
theorem kmX8_ply : KM yX8_ply cX8_ply 5 (some .int) 2 := ⟨tt_6 91 (by decide +kernel) rfl, tt_1 8 (by decide +kernel) rfl, by decide⟩
theorem kmX8_put : KM yX8_put cX8_put 5 (some .int) 3 := ⟨tt_7 226 (by decide +kernel) rfl, tt_1 8 (by decide +kernel) rfl, by decide⟩
theorem kmX8_rank : KM yX8_rank cX8_rank 3 (some .int) 1 := ⟨tt_7 80 (by decide +kernel) rfl, tt_1 8 (by decide +kernel) rfl, by decide⟩
theorem kmX8_room : KM yX8_room cX8_room 2 (some .int) 1 := ⟨tt_8 10 (by decide +kernel) rfl, tt_1 8 (by decide +kernel) rfl, by decide⟩
theorem kmX8_run : KM yX8_run cX8_run 5 (some .int) 1 := ⟨tt_6 160 (by decide +kernel) rfl, tt_1 8 (by decide +kernel) rfl, by decide⟩
theorem kmX8_spared : KM yX8_spared cX8_spared 6 (some .int) 3 := ⟨tt_6 231 (by decide +kernel) rfl, tt_1 8 (by decide +kernel) rfl, by decide⟩
theorem kmX8_step : KM yX8_step cX8_step 6 (some .int) 3 := ⟨tt_7 164 (by decide +kernel) rfl, tt_1 8 (by decide +kernel) rfl, by decide⟩
theorem kmX8_stiff : KM yX8_stiff cX8_stiff 4 (some .long) 3 := ⟨tt_6 105 (by decide +kernel) rfl, tt_1 8 (by decide +kernel) rfl, by decide⟩
theorem kmX8_strain : KM yX8_strain cX8_strain 6 (some .long) 5 := ⟨tt_6 177 (by decide +kernel) rfl, tt_1 8 (by decide +kernel) rfl, by decide⟩
theorem kmX8_swap : KM yX8_swap cX8_swap 5 (some .int) 2 := ⟨tt_7 210 (by decide +kernel) rfl, tt_1 8 (by decide +kernel) rfl, by decide⟩
theorem kmX8_thin : KM yX8_thin cX8_thin 4 (some .int) 3 := ⟨tt_7 128 (by decide +kernel) rfl, tt_1 8 (by decide +kernel) rfl, by decide⟩
theorem kmX8_thinner : KM yX8_thinner cX8_thinner 3 (some .int) 2 := ⟨tt_7 112 (by decide +kernel) rfl, tt_1 8 (by decide +kernel) rfl, by decide⟩
theorem kmX8_turn : KM yX8_turn cX8_turn 4 (some .int) 2 := ⟨tt_7 222 (by decide +kernel) rfl, tt_1 8 (by decide +kernel) rfl, by decide⟩
theorem kmX8_turned : KM yX8_turned cX8_turned 5 (some .int) 1 := ⟨tt_7 199 (by decide +kernel) rfl, tt_1 8 (by decide +kernel) rfl, by decide⟩
theorem kmX8_twist : KM yX8_twist cX8_twist 1 (some .long) 0 := ⟨tt_6 156 (by decide +kernel) rfl, tt_1 8 (by decide +kernel) rfl, by decide⟩
theorem kmX8_undo : KM yX8_undo cX8_undo 1 (some .int) 0 := ⟨tt_8 31 (by decide +kernel) rfl, tt_1 8 (by decide +kernel) rfl, by decide⟩
theorem kmX8_unlike : KM yX8_unlike cX8_unlike 3 (some .int) 1 := ⟨tt_7 104 (by decide +kernel) rfl, tt_1 8 (by decide +kernel) rfl, by decide⟩
theorem kmX8_upset : KM yX8_upset cX8_upset 2 (some .int) 0 := ⟨tt_8 19 (by decide +kernel) rfl, tt_1 8 (by decide +kernel) rfl, by decide⟩
theorem kmX8_warp : KM yX8_warp cX8_warp 1 (some .long) 0 := ⟨tt_6 151 (by decide +kernel) rfl, tt_1 8 (by decide +kernel) rfl, by decide⟩
theorem kmX8_whirl : KM yX8_whirl cX8_whirl 3 (some .int) 1 := ⟨tt_8 15 (by decide +kernel) rfl, tt_1 8 (by decide +kernel) rfl, by decide⟩
theorem kmX8_worst : KM yX8_worst cX8_worst 4 (some .int) 1 := ⟨tt_7 24 (by decide +kernel) rfl, tt_1 8 (by decide +kernel) rfl, by decide⟩
theorem kvX7_alike : KV yX7_alike := ⟨tt_5 82 (by decide +kernel) rfl, tt_5 83 (by decide +kernel) rfl⟩
theorem kvX7_anew : KV yX7_anew := ⟨tt_5 62 (by decide +kernel) rfl, tt_5 63 (by decide +kernel) rfl⟩
theorem kvX7_back : KV yX7_back := ⟨tt_5 74 (by decide +kernel) rfl, tt_5 75 (by decide +kernel) rfl⟩
theorem kvX7_become : KV yX7_become := ⟨tt_5 27 (by decide +kernel) rfl, tt_5 28 (by decide +kernel) rfl⟩
theorem kvX7_bend : KV yX7_bend := ⟨tt_3 123 (by decide +kernel) rfl, tt_3 124 (by decide +kernel) rfl⟩
theorem kvX7_best : KV yX7_best := ⟨tt_4 16 (by decide +kernel) rfl, tt_4 17 (by decide +kernel) rfl⟩
theorem kvX7_bestBy : KV yX7_bestBy := ⟨tt_4 31 (by decide +kernel) rfl, tt_4 32 (by decide +kernel) rfl⟩
theorem kvX7_blend : KV yX7_blend := ⟨tt_4 126 (by decide +kernel) rfl, tt_4 127 (by decide +kernel) rfl⟩
theorem kvX7_blends : KV yX7_blends := ⟨tt_4 162 (by decide +kernel) rfl, tt_4 163 (by decide +kernel) rfl⟩
theorem kvX7_carries : KV yX7_carries := ⟨tt_3 163 (by decide +kernel) rfl, tt_3 164 (by decide +kernel) rfl⟩
theorem kvX7_comes : KV yX7_comes := ⟨tt_4 167 (by decide +kernel) rfl, tt_4 168 (by decide +kernel) rfl⟩
theorem kvX7_common : KV yX7_common := ⟨tt_5 110 (by decide +kernel) rfl, tt_5 111 (by decide +kernel) rfl⟩
theorem kvX7_count : KV yX7_count := ⟨tt_2 164 (by decide +kernel) rfl, tt_2 165 (by decide +kernel) rfl⟩
theorem kvX7_drop : KV yX7_drop := ⟨tt_5 14 (by decide +kernel) rfl, tt_5 15 (by decide +kernel) rfl⟩
theorem kvX7_end : KV yX7_end := ⟨tt_1 219 (by decide +kernel) rfl, tt_1 220 (by decide +kernel) rfl⟩
theorem kvX7_even : KV yX7_even := ⟨tt_3 5 (by decide +kernel) rfl, tt_3 6 (by decide +kernel) rfl⟩
theorem kvX7_exchanges : KV yX7_exchanges := ⟨tt_4 74 (by decide +kernel) rfl, tt_4 75 (by decide +kernel) rfl⟩
theorem kvX7_factor : KV yX7_factor := ⟨tt_3 127 (by decide +kernel) rfl, tt_3 128 (by decide +kernel) rfl⟩
theorem kvX7_fault : KV yX7_fault := ⟨tt_2 160 (by decide +kernel) rfl, tt_2 161 (by decide +kernel) rfl⟩
theorem kvX7_feed : KV yX7_feed := ⟨tt_1 211 (by decide +kernel) rfl, tt_1 212 (by decide +kernel) rfl⟩
theorem kvX7_frail : KV yX7_frail := ⟨tt_4 189 (by decide +kernel) rfl, tt_4 190 (by decide +kernel) rfl⟩
theorem kvX7_image : KV yX7_image := ⟨tt_5 66 (by decide +kernel) rfl, tt_5 67 (by decide +kernel) rfl⟩
theorem kvX7_keep : KV yX7_keep := ⟨tt_5 23 (by decide +kernel) rfl, tt_5 24 (by decide +kernel) rfl⟩
theorem kvX7_kind : KV yX7_kind := ⟨tt_2 176 (by decide +kernel) rfl, tt_2 177 (by decide +kernel) rfl⟩
theorem kvX7_likes : KV yX7_likes := ⟨tt_3 67 (by decide +kernel) rfl, tt_3 68 (by decide +kernel) rfl⟩
theorem kvX7_lost : KV yX7_lost := ⟨tt_4 210 (by decide +kernel) rfl, tt_4 211 (by decide +kernel) rfl⟩
theorem kvX7_many : KV yX7_many := ⟨tt_2 219 (by decide +kernel) rfl, tt_2 220 (by decide +kernel) rfl⟩
theorem kvX7_modulus : KV yX7_modulus := ⟨tt_3 158 (by decide +kernel) rfl, tt_3 159 (by decide +kernel) rfl⟩
theorem kvX7_nearest : KV yX7_nearest := ⟨tt_4 37 (by decide +kernel) rfl, tt_4 38 (by decide +kernel) rfl⟩
theorem kvX7_nearestAt : KV yX7_nearestAt := ⟨tt_4 49 (by decide +kernel) rfl, tt_4 50 (by decide +kernel) rfl⟩
theorem kvX7_order : KV yX7_order := ⟨tt_3 234 (by decide +kernel) rfl, tt_3 235 (by decide +kernel) rfl⟩
theorem kvX7_orders : KV yX7_orders := ⟨tt_3 175 (by decide +kernel) rfl, tt_3 176 (by decide +kernel) rfl⟩
theorem kvX7_partOf : KV yX7_partOf := ⟨tt_5 95 (by decide +kernel) rfl, tt_5 96 (by decide +kernel) rfl⟩
theorem kvX7_plate : KV yX7_plate := ⟨tt_1 223 (by decide +kernel) rfl, tt_1 224 (by decide +kernel) rfl⟩
theorem kvX7_ply : KV yX7_ply := ⟨tt_2 200 (by decide +kernel) rfl, tt_2 201 (by decide +kernel) rfl⟩
theorem kvX7_put : KV yX7_put := ⟨tt_5 7 (by decide +kernel) rfl, tt_5 8 (by decide +kernel) rfl⟩
theorem kvX7_rank : KV yX7_rank := ⟨tt_4 7 (by decide +kernel) rfl, tt_4 8 (by decide +kernel) rfl⟩
theorem kvX7_room : KV yX7_room := ⟨tt_5 35 (by decide +kernel) rfl, tt_5 36 (by decide +kernel) rfl⟩
theorem kvX7_run : KV yX7_run := ⟨tt_3 51 (by decide +kernel) rfl, tt_3 52 (by decide +kernel) rfl⟩
theorem kvX7_spared : KV yX7_spared := ⟨tt_4 222 (by decide +kernel) rfl, tt_4 223 (by decide +kernel) rfl⟩
theorem kvX7_step : KV yX7_step := ⟨tt_4 176 (by decide +kernel) rfl, tt_4 177 (by decide +kernel) rfl⟩
theorem kvX7_stiff : KV yX7_stiff := ⟨tt_2 228 (by decide +kernel) rfl, tt_2 229 (by decide +kernel) rfl⟩
theorem kvX7_strain : KV yX7_strain := ⟨tt_3 74 (by decide +kernel) rfl, tt_3 75 (by decide +kernel) rfl⟩
theorem kvX7_swap : KV yX7_swap := ⟨tt_4 227 (by decide +kernel) rfl, tt_4 228 (by decide +kernel) rfl⟩
theorem kvX7_thin : KV yX7_thin := ⟨tt_4 118 (by decide +kernel) rfl, tt_4 119 (by decide +kernel) rfl⟩
theorem kvX7_thinner : KV yX7_thinner := ⟨tt_4 90 (by decide +kernel) rfl, tt_4 91 (by decide +kernel) rfl⟩
theorem kvX7_turn : KV yX7_turn := ⟨tt_5 3 (by decide +kernel) rfl, tt_5 4 (by decide +kernel) rfl⟩
theorem kvX7_turned : KV yX7_turned := ⟨tt_5 78 (by decide +kernel) rfl, tt_5 79 (by decide +kernel) rfl⟩
theorem kvX7_twist : KV yX7_twist := ⟨tt_3 43 (by decide +kernel) rfl, tt_3 44 (by decide +kernel) rfl⟩
theorem kvX7_undo : KV yX7_undo := ⟨tt_5 58 (by decide +kernel) rfl, tt_5 59 (by decide +kernel) rfl⟩
theorem kvX7_unlike : KV yX7_unlike := ⟨tt_4 53 (by decide +kernel) rfl, tt_4 54 (by decide +kernel) rfl⟩
theorem kvX7_upset : KV yX7_upset := ⟨tt_5 49 (by decide +kernel) rfl, tt_5 50 (by decide +kernel) rfl⟩
theorem kvX7_warp : KV yX7_warp := ⟨tt_3 30 (by decide +kernel) rfl, tt_3 31 (by decide +kernel) rfl⟩
theorem kvX7_whirl : KV yX7_whirl := ⟨tt_5 39 (by decide +kernel) rfl, tt_5 40 (by decide +kernel) rfl⟩
theorem kvX7_worst : KV yX7_worst := ⟨tt_4 218 (by decide +kernel) rfl, tt_4 219 (by decide +kernel) rfl⟩
theorem kvX8_alike : KV yX8_alike := ⟨tt_7 193 (by decide +kernel) rfl, tt_7 194 (by decide +kernel) rfl⟩
theorem kvX8_anew : KV yX8_anew := ⟨tt_8 37 (by decide +kernel) rfl, tt_8 38 (by decide +kernel) rfl⟩
theorem kvX8_back : KV yX8_back := ⟨tt_8 25 (by decide +kernel) rfl, tt_8 26 (by decide +kernel) rfl⟩
theorem kvX8_become : KV yX8_become := ⟨tt_8 0 (by decide +kernel) rfl, tt_8 1 (by decide +kernel) rfl⟩
theorem kvX8_bend : KV yX8_bend := ⟨tt_6 207 (by decide +kernel) rfl, tt_6 208 (by decide +kernel) rfl⟩
theorem kvX8_best : KV yX8_best := ⟨tt_7 82 (by decide +kernel) rfl, tt_7 83 (by decide +kernel) rfl⟩
theorem kvX8_bestBy : KV yX8_bestBy := ⟨tt_7 90 (by decide +kernel) rfl, tt_7 91 (by decide +kernel) rfl⟩
theorem kvX8_blend : KV yX8_blend := ⟨tt_7 130 (by decide +kernel) rfl, tt_7 131 (by decide +kernel) rfl⟩
theorem kvX8_blends : KV yX8_blends := ⟨tt_7 154 (by decide +kernel) rfl, tt_7 155 (by decide +kernel) rfl⟩
theorem kvX8_carries : KV yX8_carries := ⟨tt_7 10 (by decide +kernel) rfl, tt_7 11 (by decide +kernel) rfl⟩
theorem kvX8_comes : KV yX8_comes := ⟨tt_7 158 (by decide +kernel) rfl, tt_7 159 (by decide +kernel) rfl⟩
theorem kvX8_common_ : KV yX8_common_ := ⟨tt_7 189 (by decide +kernel) rfl, tt_7 190 (by decide +kernel) rfl⟩
theorem kvX8_count : KV yX8_count := ⟨tt_6 76 (by decide +kernel) rfl, tt_6 77 (by decide +kernel) rfl⟩
theorem kvX8_drop : KV yX8_drop := ⟨tt_7 228 (by decide +kernel) rfl, tt_7 229 (by decide +kernel) rfl⟩
theorem kvX8_end : KV yX8_end := ⟨tt_5 236 (by decide +kernel) rfl, tt_5 237 (by decide +kernel) rfl⟩
theorem kvX8_even : KV yX8_even := ⟨tt_6 128 (by decide +kernel) rfl, tt_6 129 (by decide +kernel) rfl⟩
theorem kvX8_exchanges : KV yX8_exchanges := ⟨tt_7 106 (by decide +kernel) rfl, tt_7 107 (by decide +kernel) rfl⟩
theorem kvX8_factor : KV yX8_factor := ⟨tt_6 211 (by decide +kernel) rfl, tt_6 212 (by decide +kernel) rfl⟩
theorem kvX8_fault : KV yX8_fault := ⟨tt_6 72 (by decide +kernel) rfl, tt_6 73 (by decide +kernel) rfl⟩
theorem kvX8_feed : KV yX8_feed := ⟨tt_5 232 (by decide +kernel) rfl, tt_5 233 (by decide +kernel) rfl⟩
theorem kvX8_frail : KV yX8_frail := ⟨tt_6 237 (by decide +kernel) rfl, tt_6 238 (by decide +kernel) rfl⟩
theorem kvX8_frailSet : KV yX8_frailSet := ⟨tt_7 6 (by decide +kernel) rfl, tt_7 7 (by decide +kernel) rfl⟩
theorem kvX8_image : KV yX8_image := ⟨tt_8 21 (by decide +kernel) rfl, tt_8 22 (by decide +kernel) rfl⟩
theorem kvX8_keep : KV yX8_keep := ⟨tt_7 236 (by decide +kernel) rfl, tt_7 237 (by decide +kernel) rfl⟩
theorem kvX8_kind : KV yX8_kind := ⟨tt_6 80 (by decide +kernel) rfl, tt_6 81 (by decide +kernel) rfl⟩
theorem kvX8_likes : KV yX8_likes := ⟨tt_6 167 (by decide +kernel) rfl, tt_6 168 (by decide +kernel) rfl⟩
theorem kvX8_lost : KV yX8_lost := ⟨tt_7 14 (by decide +kernel) rfl, tt_7 15 (by decide +kernel) rfl⟩
theorem kvX8_many : KV yX8_many := ⟨tt_6 98 (by decide +kernel) rfl, tt_6 99 (by decide +kernel) rfl⟩
theorem kvX8_modulus : KV yX8_modulus := ⟨tt_6 225 (by decide +kernel) rfl, tt_6 226 (by decide +kernel) rfl⟩
theorem kvX8_nearest : KV yX8_nearest := ⟨tt_7 94 (by decide +kernel) rfl, tt_7 95 (by decide +kernel) rfl⟩
theorem kvX8_nearestAt : KV yX8_nearestAt := ⟨tt_7 98 (by decide +kernel) rfl, tt_7 99 (by decide +kernel) rfl⟩
theorem kvX8_order : KV yX8_order := ⟨tt_7 74 (by decide +kernel) rfl, tt_7 75 (by decide +kernel) rfl⟩
theorem kvX8_orders : KV yX8_orders := ⟨tt_7 26 (by decide +kernel) rfl, tt_7 27 (by decide +kernel) rfl⟩
theorem kvX8_partOf : KV yX8_partOf := ⟨tt_7 166 (by decide +kernel) rfl, tt_7 167 (by decide +kernel) rfl⟩
theorem kvX8_plate : KV yX8_plate := ⟨tt_6 3 (by decide +kernel) rfl, tt_6 4 (by decide +kernel) rfl⟩
theorem kvX8_ply : KV yX8_ply := ⟨tt_6 89 (by decide +kernel) rfl, tt_6 90 (by decide +kernel) rfl⟩
theorem kvX8_put : KV yX8_put := ⟨tt_7 224 (by decide +kernel) rfl, tt_7 225 (by decide +kernel) rfl⟩
theorem kvX8_rank : KV yX8_rank := ⟨tt_7 78 (by decide +kernel) rfl, tt_7 79 (by decide +kernel) rfl⟩
theorem kvX8_room : KV yX8_room := ⟨tt_8 8 (by decide +kernel) rfl, tt_8 9 (by decide +kernel) rfl⟩
theorem kvX8_run : KV yX8_run := ⟨tt_6 158 (by decide +kernel) rfl, tt_6 159 (by decide +kernel) rfl⟩
theorem kvX8_spared : KV yX8_spared := ⟨tt_6 229 (by decide +kernel) rfl, tt_6 230 (by decide +kernel) rfl⟩
theorem kvX8_step : KV yX8_step := ⟨tt_7 162 (by decide +kernel) rfl, tt_7 163 (by decide +kernel) rfl⟩
theorem kvX8_stiff : KV yX8_stiff := ⟨tt_6 103 (by decide +kernel) rfl, tt_6 104 (by decide +kernel) rfl⟩
theorem kvX8_strain : KV yX8_strain := ⟨tt_6 175 (by decide +kernel) rfl, tt_6 176 (by decide +kernel) rfl⟩
theorem kvX8_swap : KV yX8_swap := ⟨tt_7 208 (by decide +kernel) rfl, tt_7 209 (by decide +kernel) rfl⟩
theorem kvX8_thin : KV yX8_thin := ⟨tt_7 126 (by decide +kernel) rfl, tt_7 127 (by decide +kernel) rfl⟩
theorem kvX8_thinner : KV yX8_thinner := ⟨tt_7 110 (by decide +kernel) rfl, tt_7 111 (by decide +kernel) rfl⟩
theorem kvX8_turn : KV yX8_turn := ⟨tt_7 220 (by decide +kernel) rfl, tt_7 221 (by decide +kernel) rfl⟩
theorem kvX8_turned : KV yX8_turned := ⟨tt_7 197 (by decide +kernel) rfl, tt_7 198 (by decide +kernel) rfl⟩
theorem kvX8_twist : KV yX8_twist := ⟨tt_6 154 (by decide +kernel) rfl, tt_6 155 (by decide +kernel) rfl⟩
theorem kvX8_undo : KV yX8_undo := ⟨tt_8 29 (by decide +kernel) rfl, tt_8 30 (by decide +kernel) rfl⟩
theorem kvX8_unlike : KV yX8_unlike := ⟨tt_7 102 (by decide +kernel) rfl, tt_7 103 (by decide +kernel) rfl⟩
theorem kvX8_upset : KV yX8_upset := ⟨tt_8 17 (by decide +kernel) rfl, tt_8 18 (by decide +kernel) rfl⟩
theorem kvX8_warp : KV yX8_warp := ⟨tt_6 149 (by decide +kernel) rfl, tt_6 150 (by decide +kernel) rfl⟩
theorem kvX8_whirl : KV yX8_whirl := ⟨tt_8 13 (by decide +kernel) rfl, tt_8 14 (by decide +kernel) rfl⟩
theorem kvX8_worst : KV yX8_worst := ⟨tt_7 22 (by decide +kernel) rfl, tt_7 23 (by decide +kernel) rfl⟩
theorem lm_L_102 : Cond.methodLink RL 102 yX8_rank ∈ Tw := tt_7 77 (by decide +kernel) rfl
theorem lm_L_103 : Cond.methodLink RL 103 yX7_best ∈ Tw := tt_4 15 (by decide +kernel) rfl
theorem lm_L_106 : Cond.methodLink RL 106 yX8_best ∈ Tw := tt_7 81 (by decide +kernel) rfl
theorem lm_L_107 : Cond.methodLink RL 107 yX7_bestBy ∈ Tw := tt_4 30 (by decide +kernel) rfl
theorem lm_L_110 : Cond.methodLink RL 110 yX8_bestBy ∈ Tw := tt_7 89 (by decide +kernel) rfl
theorem lm_L_111 : Cond.methodLink RL 111 yX7_nearest ∈ Tw := tt_4 36 (by decide +kernel) rfl
theorem lm_L_114 : Cond.methodLink RL 114 yX8_nearest ∈ Tw := tt_7 93 (by decide +kernel) rfl
theorem lm_L_115 : Cond.methodLink RL 115 yX7_nearestAt ∈ Tw := tt_4 48 (by decide +kernel) rfl
theorem lm_L_118 : Cond.methodLink RL 118 yX8_nearestAt ∈ Tw := tt_7 97 (by decide +kernel) rfl
theorem lm_L_119 : Cond.methodLink RL 119 yX7_unlike ∈ Tw := tt_4 52 (by decide +kernel) rfl
theorem lm_L_122 : Cond.methodLink RL 122 yX8_unlike ∈ Tw := tt_7 101 (by decide +kernel) rfl
theorem lm_L_123 : Cond.methodLink RL 123 yX7_thinner ∈ Tw := tt_4 89 (by decide +kernel) rfl
theorem lm_L_126 : Cond.methodLink RL 126 yX8_thinner ∈ Tw := tt_7 109 (by decide +kernel) rfl
theorem lm_L_127 : Cond.methodLink RL 127 yX7_thin ∈ Tw := tt_4 117 (by decide +kernel) rfl
theorem lm_L_13 : Cond.methodLink RL 13 yX7_feed ∈ Tw := tt_1 210 (by decide +kernel) rfl
theorem lm_L_130 : Cond.methodLink RL 130 yX8_thin ∈ Tw := tt_7 125 (by decide +kernel) rfl
theorem lm_L_131 : Cond.methodLink RL 131 yX7_blend ∈ Tw := tt_4 125 (by decide +kernel) rfl
theorem lm_L_134 : Cond.methodLink RL 134 yX8_blend ∈ Tw := tt_7 129 (by decide +kernel) rfl
theorem lm_L_135 : Cond.methodLink RL 135 yX7_blends ∈ Tw := tt_4 161 (by decide +kernel) rfl
theorem lm_L_138 : Cond.methodLink RL 138 yX8_blends ∈ Tw := tt_7 153 (by decide +kernel) rfl
theorem lm_L_139 : Cond.methodLink RL 139 yX7_comes ∈ Tw := tt_4 166 (by decide +kernel) rfl
theorem lm_L_142 : Cond.methodLink RL 142 yX8_comes ∈ Tw := tt_7 157 (by decide +kernel) rfl
theorem lm_L_143 : Cond.methodLink RL 143 yX7_step ∈ Tw := tt_4 175 (by decide +kernel) rfl
theorem lm_L_146 : Cond.methodLink RL 146 yX8_step ∈ Tw := tt_7 161 (by decide +kernel) rfl
theorem lm_L_147 : Cond.methodLink RL 147 yX7_frail ∈ Tw := tt_4 188 (by decide +kernel) rfl
theorem lm_L_150 : Cond.methodLink RL 150 yX8_frail ∈ Tw := tt_6 236 (by decide +kernel) rfl
theorem lm_L_151 : Cond.methodLink RL 151 yX7_frailSet ∈ Tw := tt_4 208 (by decide +kernel) rfl
theorem lm_L_154 : Cond.methodLink RL 154 yX8_frailSet ∈ Tw := tt_7 5 (by decide +kernel) rfl
theorem lm_L_155 : Cond.methodLink RL 155 yX7_carries ∈ Tw := tt_3 162 (by decide +kernel) rfl
theorem lm_L_158 : Cond.methodLink RL 158 yX8_carries ∈ Tw := tt_7 9 (by decide +kernel) rfl
theorem lm_L_159 : Cond.methodLink RL 159 yX7_partOf ∈ Tw := tt_5 94 (by decide +kernel) rfl
theorem lm_L_162 : Cond.methodLink RL 162 yX8_partOf ∈ Tw := tt_7 165 (by decide +kernel) rfl
theorem lm_L_163 : Cond.methodLink RL 163 yX7_common ∈ Tw := tt_5 109 (by decide +kernel) rfl
theorem lm_L_166 : Cond.methodLink RL 166 yX8_common_ ∈ Tw := tt_7 188 (by decide +kernel) rfl
theorem lm_L_167 : Cond.methodLink RL 167 yX7_lost ∈ Tw := tt_4 209 (by decide +kernel) rfl
theorem lm_L_17 : Cond.methodLink RL 17 yX8_feed ∈ Tw := tt_5 231 (by decide +kernel) rfl
theorem lm_L_170 : Cond.methodLink RL 170 yX8_lost ∈ Tw := tt_7 13 (by decide +kernel) rfl
theorem lm_L_171 : Cond.methodLink RL 171 yX7_worst ∈ Tw := tt_4 217 (by decide +kernel) rfl
theorem lm_L_174 : Cond.methodLink RL 174 yX8_worst ∈ Tw := tt_7 21 (by decide +kernel) rfl
theorem lm_L_175 : Cond.methodLink RL 175 yX7_spared ∈ Tw := tt_4 221 (by decide +kernel) rfl
theorem lm_L_178 : Cond.methodLink RL 178 yX8_spared ∈ Tw := tt_6 228 (by decide +kernel) rfl
theorem lm_L_179 : Cond.methodLink RL 179 yX7_exchanges ∈ Tw := tt_4 73 (by decide +kernel) rfl
theorem lm_L_18 : Cond.methodLink RL 18 yX7_end ∈ Tw := tt_1 218 (by decide +kernel) rfl
theorem lm_L_182 : Cond.methodLink RL 182 yX8_exchanges ∈ Tw := tt_7 105 (by decide +kernel) rfl
theorem lm_L_183 : Cond.methodLink RL 183 yX7_many ∈ Tw := tt_2 218 (by decide +kernel) rfl
theorem lm_L_186 : Cond.methodLink RL 186 yX8_many ∈ Tw := tt_6 97 (by decide +kernel) rfl
theorem lm_L_187 : Cond.methodLink RL 187 yX7_swap ∈ Tw := tt_4 226 (by decide +kernel) rfl
theorem lm_L_190 : Cond.methodLink RL 190 yX8_swap ∈ Tw := tt_7 207 (by decide +kernel) rfl
theorem lm_L_191 : Cond.methodLink RL 191 yX7_turn ∈ Tw := tt_5 2 (by decide +kernel) rfl
theorem lm_L_194 : Cond.methodLink RL 194 yX8_turn ∈ Tw := tt_7 219 (by decide +kernel) rfl
theorem lm_L_195 : Cond.methodLink RL 195 yX7_put ∈ Tw := tt_5 6 (by decide +kernel) rfl
theorem lm_L_198 : Cond.methodLink RL 198 yX8_put ∈ Tw := tt_7 223 (by decide +kernel) rfl
theorem lm_L_199 : Cond.methodLink RL 199 yX7_drop ∈ Tw := tt_5 13 (by decide +kernel) rfl
theorem lm_L_202 : Cond.methodLink RL 202 yX8_drop ∈ Tw := tt_7 227 (by decide +kernel) rfl
theorem lm_L_203 : Cond.methodLink RL 203 yX7_become ∈ Tw := tt_5 26 (by decide +kernel) rfl
theorem lm_L_206 : Cond.methodLink RL 206 yX8_become ∈ Tw := tt_7 239 (by decide +kernel) rfl
theorem lm_L_207 : Cond.methodLink RL 207 yX7_keep ∈ Tw := tt_5 22 (by decide +kernel) rfl
theorem lm_L_210 : Cond.methodLink RL 210 yX8_keep ∈ Tw := tt_7 235 (by decide +kernel) rfl
theorem lm_L_211 : Cond.methodLink RL 211 yX7_room ∈ Tw := tt_5 34 (by decide +kernel) rfl
theorem lm_L_214 : Cond.methodLink RL 214 yX8_room ∈ Tw := tt_8 7 (by decide +kernel) rfl
theorem lm_L_215 : Cond.methodLink RL 215 yX7_whirl ∈ Tw := tt_5 38 (by decide +kernel) rfl
theorem lm_L_218 : Cond.methodLink RL 218 yX8_whirl ∈ Tw := tt_8 12 (by decide +kernel) rfl
theorem lm_L_219 : Cond.methodLink RL 219 yX7_upset ∈ Tw := tt_5 48 (by decide +kernel) rfl
theorem lm_L_22 : Cond.methodLink RL 22 yX8_end ∈ Tw := tt_5 235 (by decide +kernel) rfl
theorem lm_L_222 : Cond.methodLink RL 222 yX8_upset ∈ Tw := tt_8 16 (by decide +kernel) rfl
theorem lm_L_223 : Cond.methodLink RL 223 yX7_turned ∈ Tw := tt_5 77 (by decide +kernel) rfl
theorem lm_L_226 : Cond.methodLink RL 226 yX8_turned ∈ Tw := tt_7 196 (by decide +kernel) rfl
theorem lm_L_227 : Cond.methodLink RL 227 yX7_image ∈ Tw := tt_5 65 (by decide +kernel) rfl
theorem lm_L_23 : Cond.methodLink RL 23 yX7_plate ∈ Tw := tt_1 222 (by decide +kernel) rfl
theorem lm_L_230 : Cond.methodLink RL 230 yX8_image ∈ Tw := tt_8 20 (by decide +kernel) rfl
theorem lm_L_231 : Cond.methodLink RL 231 yX7_back ∈ Tw := tt_5 73 (by decide +kernel) rfl
theorem lm_L_234 : Cond.methodLink RL 234 yX8_back ∈ Tw := tt_8 24 (by decide +kernel) rfl
theorem lm_L_235 : Cond.methodLink RL 235 yX7_alike ∈ Tw := tt_5 81 (by decide +kernel) rfl
theorem lm_L_238 : Cond.methodLink RL 238 yX8_alike ∈ Tw := tt_7 192 (by decide +kernel) rfl
theorem lm_L_239 : Cond.methodLink RL 239 yX7_undo ∈ Tw := tt_5 57 (by decide +kernel) rfl
theorem lm_L_242 : Cond.methodLink RL 242 yX8_undo ∈ Tw := tt_8 28 (by decide +kernel) rfl
theorem lm_L_243 : Cond.methodLink RL 243 yX7_anew ∈ Tw := tt_5 61 (by decide +kernel) rfl
theorem lm_L_246 : Cond.methodLink RL 246 yX8_anew ∈ Tw := tt_8 36 (by decide +kernel) rfl
theorem lm_L_27 : Cond.methodLink RL 27 yX8_plate ∈ Tw := tt_6 2 (by decide +kernel) rfl
theorem lm_L_28 : Cond.methodLink RL 28 yX7_fault ∈ Tw := tt_2 159 (by decide +kernel) rfl
theorem lm_L_31 : Cond.methodLink RL 31 yX8_fault ∈ Tw := tt_6 71 (by decide +kernel) rfl
theorem lm_L_32 : Cond.methodLink RL 32 yX7_count ∈ Tw := tt_2 163 (by decide +kernel) rfl
theorem lm_L_35 : Cond.methodLink RL 35 yX8_count ∈ Tw := tt_6 75 (by decide +kernel) rfl
theorem lm_L_36 : Cond.methodLink RL 36 yX7_kind ∈ Tw := tt_2 175 (by decide +kernel) rfl
theorem lm_L_40 : Cond.methodLink RL 40 yX8_kind ∈ Tw := tt_6 79 (by decide +kernel) rfl
theorem lm_L_41 : Cond.methodLink RL 41 yX7_ply ∈ Tw := tt_2 199 (by decide +kernel) rfl
theorem lm_L_44 : Cond.methodLink RL 44 yX8_ply ∈ Tw := tt_6 88 (by decide +kernel) rfl
theorem lm_L_45 : Cond.methodLink RL 45 yX7_stiff ∈ Tw := tt_2 227 (by decide +kernel) rfl
theorem lm_L_49 : Cond.methodLink RL 49 yX8_stiff ∈ Tw := tt_6 102 (by decide +kernel) rfl
theorem lm_L_50 : Cond.methodLink RL 50 yX7_even ∈ Tw := tt_3 4 (by decide +kernel) rfl
theorem lm_L_53 : Cond.methodLink RL 53 yX8_even ∈ Tw := tt_6 127 (by decide +kernel) rfl
theorem lm_L_54 : Cond.methodLink RL 54 yX7_warp ∈ Tw := tt_3 29 (by decide +kernel) rfl
theorem lm_L_58 : Cond.methodLink RL 58 yX8_warp ∈ Tw := tt_6 148 (by decide +kernel) rfl
theorem lm_L_59 : Cond.methodLink RL 59 yX7_twist ∈ Tw := tt_3 42 (by decide +kernel) rfl
theorem lm_L_62 : Cond.methodLink RL 62 yX8_twist ∈ Tw := tt_6 153 (by decide +kernel) rfl
theorem lm_L_63 : Cond.methodLink RL 63 yX7_run ∈ Tw := tt_3 50 (by decide +kernel) rfl
theorem lm_L_66 : Cond.methodLink RL 66 yX8_run ∈ Tw := tt_6 157 (by decide +kernel) rfl
theorem lm_L_67 : Cond.methodLink RL 67 yX7_likes ∈ Tw := tt_3 66 (by decide +kernel) rfl
theorem lm_L_70 : Cond.methodLink RL 70 yX8_likes ∈ Tw := tt_6 166 (by decide +kernel) rfl
theorem lm_L_71 : Cond.methodLink RL 71 yX7_strain ∈ Tw := tt_3 73 (by decide +kernel) rfl
theorem lm_L_75 : Cond.methodLink RL 75 yX8_strain ∈ Tw := tt_6 174 (by decide +kernel) rfl
theorem lm_L_76 : Cond.methodLink RL 76 yX7_bend ∈ Tw := tt_3 122 (by decide +kernel) rfl
theorem lm_L_79 : Cond.methodLink RL 79 yX8_bend ∈ Tw := tt_6 206 (by decide +kernel) rfl
theorem lm_L_80 : Cond.methodLink RL 80 yX7_factor ∈ Tw := tt_3 126 (by decide +kernel) rfl
theorem lm_L_84 : Cond.methodLink RL 84 yX8_factor ∈ Tw := tt_6 210 (by decide +kernel) rfl
theorem lm_L_85 : Cond.methodLink RL 85 yX7_modulus ∈ Tw := tt_3 157 (by decide +kernel) rfl
theorem lm_L_89 : Cond.methodLink RL 89 yX8_modulus ∈ Tw := tt_6 224 (by decide +kernel) rfl
theorem lm_L_90 : Cond.methodLink RL 90 yX7_orders ∈ Tw := tt_3 174 (by decide +kernel) rfl
theorem lm_L_93 : Cond.methodLink RL 93 yX8_orders ∈ Tw := tt_7 25 (by decide +kernel) rfl
theorem lm_L_94 : Cond.methodLink RL 94 yX7_order ∈ Tw := tt_3 233 (by decide +kernel) rfl
theorem lm_L_98 : Cond.methodLink RL 98 yX8_order ∈ Tw := tt_7 73 (by decide +kernel) rfl
theorem lm_L_99 : Cond.methodLink RL 99 yX7_rank ∈ Tw := tt_4 6 (by decide +kernel) rfl
theorem dL_law_0 : decode cL_law 0 = .ok (.new 7, 3) := by decide +kernel
theorem dL_law_3 : decode cL_law 3 = .ok (.dup, 1) := by decide +kernel
theorem dL_law_4 : decode cL_law 4 = .ok (.invokespecial 9, 3) := by decide +kernel
theorem dL_law_7 : decode cL_law 7 = .ok (.astore_n 1, 1) := by decide +kernel
theorem dL_law_8 : decode cL_law 8 = .ok (.new 10, 3) := by decide +kernel
theorem dL_law_11 : decode cL_law 11 = .ok (.dup, 1) := by decide +kernel
theorem dL_law_12 : decode cL_law 12 = .ok (.invokespecial 12, 3) := by decide +kernel
theorem dL_law_15 : decode cL_law 15 = .ok (.astore_n 2, 1) := by decide +kernel
theorem dL_law_16 : decode cL_law 16 = .ok (.iconst 0, 1) := by decide +kernel
theorem dL_law_17 : decode cL_law 17 = .ok (.istore_n 3, 1) := by decide +kernel
theorem dL_law_18 : decode cL_law 18 = .ok (.iload_n 3, 1) := by decide +kernel
theorem dL_law_19 : decode cL_law 19 = .ok (.aload_n 0, 1) := by decide +kernel
theorem dL_law_20 : decode cL_law 20 = .ok (.arraylength, 1) := by decide +kernel
theorem dL_law_21 : decode cL_law 21 = .ok (.bipush 6, 2) := by decide +kernel
theorem dL_law_23 : decode cL_law 23 = .ok (.isub, 1) := by decide +kernel
theorem dL_law_24 : decode cL_law 24 = .ok (.if_icmp .gt 1971, 3) := by decide +kernel
theorem dL_law_27 : decode cL_law 27 = .ok (.aload_n 0, 1) := by decide +kernel
theorem dL_law_28 : decode cL_law 28 = .ok (.iload_n 3, 1) := by decide +kernel
theorem dL_law_29 : decode cL_law 29 = .ok (.iaload, 1) := by decide +kernel
theorem dL_law_30 : decode cL_law 30 = .ok (.bipush 63, 2) := by decide +kernel
theorem dL_law_32 : decode cL_law 32 = .ok (.iand, 1) := by decide +kernel
theorem dL_law_33 : decode cL_law 33 = .ok (.tableswitch 1956 0 55 #[239, 302, 325, 338, 361, 384, 417, 450, 494, 507, 521, 535, 558, 571, 635, 699, 753, 787, 810, 853, 876, 909, 943, 966, 989, 1012, 1045, 1088, 1121, 1154, 1197, 1240, 1283, 1326, 1349, 1382, 1415, 1449, 1472, 1515, 1548, 1581, 1614, 1647, 1690, 1713, 1746, 1769, 1792, 1815, 1828, 1851, 1874, 1897, 1930, 1943], 239) := by decide +kernel
theorem dL_law_272 : decode cL_law 272 = .ok (.aload_n 1, 1) := by decide +kernel
theorem dL_law_273 : decode cL_law 273 = .ok (.aload_n 0, 1) := by decide +kernel
theorem dL_law_274 : decode cL_law 274 = .ok (.iload_n 3, 1) := by decide +kernel
theorem dL_law_275 : decode cL_law 275 = .ok (.iconst 1, 1) := by decide +kernel
theorem dL_law_276 : decode cL_law 276 = .ok (.iadd, 1) := by decide +kernel
theorem dL_law_277 : decode cL_law 277 = .ok (.iaload, 1) := by decide +kernel
theorem dL_law_278 : decode cL_law 278 = .ok (.aload_n 0, 1) := by decide +kernel
theorem dL_law_279 : decode cL_law 279 = .ok (.iload_n 3, 1) := by decide +kernel
theorem dL_law_280 : decode cL_law 280 = .ok (.iconst 2, 1) := by decide +kernel
theorem dL_law_281 : decode cL_law 281 = .ok (.iadd, 1) := by decide +kernel
theorem dL_law_282 : decode cL_law 282 = .ok (.iaload, 1) := by decide +kernel
theorem dL_law_283 : decode cL_law 283 = .ok (.aload_n 0, 1) := by decide +kernel
theorem dL_law_284 : decode cL_law 284 = .ok (.iload_n 3, 1) := by decide +kernel
theorem dL_law_285 : decode cL_law 285 = .ok (.iconst 3, 1) := by decide +kernel
theorem dL_law_286 : decode cL_law 286 = .ok (.iadd, 1) := by decide +kernel
theorem dL_law_287 : decode cL_law 287 = .ok (.iaload, 1) := by decide +kernel
theorem dL_law_288 : decode cL_law 288 = .ok (.aload_n 0, 1) := by decide +kernel
theorem dL_law_289 : decode cL_law 289 = .ok (.iload_n 3, 1) := by decide +kernel
theorem dL_law_290 : decode cL_law 290 = .ok (.iconst 4, 1) := by decide +kernel
theorem dL_law_291 : decode cL_law 291 = .ok (.iadd, 1) := by decide +kernel
theorem dL_law_292 : decode cL_law 292 = .ok (.iaload, 1) := by decide +kernel
theorem dL_law_293 : decode cL_law 293 = .ok (.aload_n 0, 1) := by decide +kernel
theorem dL_law_294 : decode cL_law 294 = .ok (.iload_n 3, 1) := by decide +kernel
theorem dL_law_295 : decode cL_law 295 = .ok (.iconst 5, 1) := by decide +kernel
theorem dL_law_296 : decode cL_law 296 = .ok (.iadd, 1) := by decide +kernel
theorem dL_law_297 : decode cL_law 297 = .ok (.iaload, 1) := by decide +kernel
theorem dL_law_298 : decode cL_law 298 = .ok (.invokevirtual 13, 3) := by decide +kernel
theorem dL_law_301 : decode cL_law 301 = .ok (.aload_n 2, 1) := by decide +kernel
theorem dL_law_302 : decode cL_law 302 = .ok (.aload_n 0, 1) := by decide +kernel
theorem dL_law_303 : decode cL_law 303 = .ok (.iload_n 3, 1) := by decide +kernel
theorem dL_law_304 : decode cL_law 304 = .ok (.iconst 1, 1) := by decide +kernel
theorem dL_law_305 : decode cL_law 305 = .ok (.iadd, 1) := by decide +kernel
theorem dL_law_306 : decode cL_law 306 = .ok (.iaload, 1) := by decide +kernel
theorem dL_law_307 : decode cL_law 307 = .ok (.aload_n 0, 1) := by decide +kernel
theorem dL_law_308 : decode cL_law 308 = .ok (.iload_n 3, 1) := by decide +kernel
theorem dL_law_309 : decode cL_law 309 = .ok (.iconst 2, 1) := by decide +kernel
theorem dL_law_310 : decode cL_law 310 = .ok (.iadd, 1) := by decide +kernel
theorem dL_law_311 : decode cL_law 311 = .ok (.iaload, 1) := by decide +kernel
theorem dL_law_312 : decode cL_law 312 = .ok (.aload_n 0, 1) := by decide +kernel
theorem dL_law_313 : decode cL_law 313 = .ok (.iload_n 3, 1) := by decide +kernel
theorem dL_law_314 : decode cL_law 314 = .ok (.iconst 3, 1) := by decide +kernel
theorem dL_law_315 : decode cL_law 315 = .ok (.iadd, 1) := by decide +kernel
theorem dL_law_316 : decode cL_law 316 = .ok (.iaload, 1) := by decide +kernel
theorem dL_law_317 : decode cL_law 317 = .ok (.aload_n 0, 1) := by decide +kernel
theorem dL_law_318 : decode cL_law 318 = .ok (.iload_n 3, 1) := by decide +kernel
theorem dL_law_319 : decode cL_law 319 = .ok (.iconst 4, 1) := by decide +kernel
theorem dL_law_320 : decode cL_law 320 = .ok (.iadd, 1) := by decide +kernel
theorem dL_law_321 : decode cL_law 321 = .ok (.iaload, 1) := by decide +kernel
theorem dL_law_322 : decode cL_law 322 = .ok (.aload_n 0, 1) := by decide +kernel
theorem dL_law_323 : decode cL_law 323 = .ok (.iload_n 3, 1) := by decide +kernel
theorem dL_law_324 : decode cL_law 324 = .ok (.iconst 5, 1) := by decide +kernel
theorem dL_law_325 : decode cL_law 325 = .ok (.iadd, 1) := by decide +kernel
theorem dL_law_326 : decode cL_law 326 = .ok (.iaload, 1) := by decide +kernel
theorem dL_law_327 : decode cL_law 327 = .ok (.invokevirtual 17, 3) := by decide +kernel
theorem dL_law_330 : decode cL_law 330 = .ok (.if_icmp .eq 1659, 3) := by decide +kernel
theorem dL_law_335 : decode cL_law 335 = .ok (.aload_n 1, 1) := by decide +kernel
theorem dL_law_336 : decode cL_law 336 = .ok (.aload_n 0, 1) := by decide +kernel
theorem dL_law_337 : decode cL_law 337 = .ok (.iload_n 3, 1) := by decide +kernel
theorem dL_law_338 : decode cL_law 338 = .ok (.iconst 1, 1) := by decide +kernel
theorem dL_law_339 : decode cL_law 339 = .ok (.iadd, 1) := by decide +kernel
theorem dL_law_340 : decode cL_law 340 = .ok (.iaload, 1) := by decide +kernel
theorem dL_law_341 : decode cL_law 341 = .ok (.invokevirtual 18, 3) := by decide +kernel
theorem dL_law_344 : decode cL_law 344 = .ok (.aload_n 2, 1) := by decide +kernel
theorem dL_law_345 : decode cL_law 345 = .ok (.aload_n 0, 1) := by decide +kernel
theorem dL_law_346 : decode cL_law 346 = .ok (.iload_n 3, 1) := by decide +kernel
theorem dL_law_347 : decode cL_law 347 = .ok (.iconst 1, 1) := by decide +kernel
theorem dL_law_348 : decode cL_law 348 = .ok (.iadd, 1) := by decide +kernel
theorem dL_law_349 : decode cL_law 349 = .ok (.iaload, 1) := by decide +kernel
theorem dL_law_350 : decode cL_law 350 = .ok (.invokevirtual 22, 3) := by decide +kernel
theorem dL_law_353 : decode cL_law 353 = .ok (.if_icmp .eq 1636, 3) := by decide +kernel
theorem dL_law_358 : decode cL_law 358 = .ok (.aload_n 1, 1) := by decide +kernel
theorem dL_law_359 : decode cL_law 359 = .ok (.invokevirtual 23, 3) := by decide +kernel
theorem dL_law_362 : decode cL_law 362 = .ok (.aload_n 2, 1) := by decide +kernel
theorem dL_law_363 : decode cL_law 363 = .ok (.invokevirtual 27, 3) := by decide +kernel
theorem dL_law_366 : decode cL_law 366 = .ok (.if_icmp .eq 1623, 3) := by decide +kernel
theorem dL_law_371 : decode cL_law 371 = .ok (.aload_n 1, 1) := by decide +kernel
theorem dL_law_372 : decode cL_law 372 = .ok (.aload_n 0, 1) := by decide +kernel
theorem dL_law_373 : decode cL_law 373 = .ok (.iload_n 3, 1) := by decide +kernel
theorem dL_law_374 : decode cL_law 374 = .ok (.iconst 1, 1) := by decide +kernel
theorem dL_law_375 : decode cL_law 375 = .ok (.iadd, 1) := by decide +kernel
theorem dL_law_376 : decode cL_law 376 = .ok (.iaload, 1) := by decide +kernel
theorem dL_law_377 : decode cL_law 377 = .ok (.invokevirtual 28, 3) := by decide +kernel
theorem dL_law_380 : decode cL_law 380 = .ok (.aload_n 2, 1) := by decide +kernel
theorem dL_law_381 : decode cL_law 381 = .ok (.aload_n 0, 1) := by decide +kernel
theorem dL_law_382 : decode cL_law 382 = .ok (.iload_n 3, 1) := by decide +kernel
theorem dL_law_383 : decode cL_law 383 = .ok (.iconst 1, 1) := by decide +kernel
theorem dL_law_384 : decode cL_law 384 = .ok (.iadd, 1) := by decide +kernel
theorem dL_law_385 : decode cL_law 385 = .ok (.iaload, 1) := by decide +kernel
theorem dL_law_386 : decode cL_law 386 = .ok (.invokevirtual 31, 3) := by decide +kernel
theorem dL_law_389 : decode cL_law 389 = .ok (.if_icmp .eq 1600, 3) := by decide +kernel
theorem dL_law_394 : decode cL_law 394 = .ok (.aload_n 1, 1) := by decide +kernel
theorem dL_law_395 : decode cL_law 395 = .ok (.aload_n 0, 1) := by decide +kernel
theorem dL_law_396 : decode cL_law 396 = .ok (.iload_n 3, 1) := by decide +kernel
theorem dL_law_397 : decode cL_law 397 = .ok (.iconst 1, 1) := by decide +kernel
theorem dL_law_398 : decode cL_law 398 = .ok (.iadd, 1) := by decide +kernel
theorem dL_law_399 : decode cL_law 399 = .ok (.iaload, 1) := by decide +kernel
theorem dL_law_400 : decode cL_law 400 = .ok (.invokevirtual 32, 3) := by decide +kernel
theorem dL_law_403 : decode cL_law 403 = .ok (.aload_n 2, 1) := by decide +kernel
theorem dL_law_404 : decode cL_law 404 = .ok (.aload_n 0, 1) := by decide +kernel
theorem dL_law_405 : decode cL_law 405 = .ok (.iload_n 3, 1) := by decide +kernel
theorem dL_law_406 : decode cL_law 406 = .ok (.iconst 1, 1) := by decide +kernel
theorem dL_law_407 : decode cL_law 407 = .ok (.iadd, 1) := by decide +kernel
theorem dL_law_408 : decode cL_law 408 = .ok (.iaload, 1) := by decide +kernel
theorem dL_law_409 : decode cL_law 409 = .ok (.invokevirtual 35, 3) := by decide +kernel
theorem dL_law_412 : decode cL_law 412 = .ok (.if_icmp .eq 1577, 3) := by decide +kernel
theorem dL_law_417 : decode cL_law 417 = .ok (.aload_n 1, 1) := by decide +kernel
theorem dL_law_418 : decode cL_law 418 = .ok (.aload_n 0, 1) := by decide +kernel
theorem dL_law_419 : decode cL_law 419 = .ok (.iload_n 3, 1) := by decide +kernel
theorem dL_law_420 : decode cL_law 420 = .ok (.iconst 1, 1) := by decide +kernel
theorem dL_law_421 : decode cL_law 421 = .ok (.iadd, 1) := by decide +kernel
theorem dL_law_422 : decode cL_law 422 = .ok (.iaload, 1) := by decide +kernel
theorem dL_law_423 : decode cL_law 423 = .ok (.aload_n 0, 1) := by decide +kernel
theorem dL_law_424 : decode cL_law 424 = .ok (.iload_n 3, 1) := by decide +kernel
theorem dL_law_425 : decode cL_law 425 = .ok (.iconst 2, 1) := by decide +kernel
theorem dL_law_426 : decode cL_law 426 = .ok (.iadd, 1) := by decide +kernel
theorem dL_law_427 : decode cL_law 427 = .ok (.iaload, 1) := by decide +kernel
theorem dL_law_428 : decode cL_law 428 = .ok (.invokevirtual 36, 3) := by decide +kernel
theorem dL_law_431 : decode cL_law 431 = .ok (.aload_n 2, 1) := by decide +kernel
theorem dL_law_432 : decode cL_law 432 = .ok (.aload_n 0, 1) := by decide +kernel
theorem dL_law_433 : decode cL_law 433 = .ok (.iload_n 3, 1) := by decide +kernel
theorem dL_law_434 : decode cL_law 434 = .ok (.iconst 1, 1) := by decide +kernel
theorem dL_law_435 : decode cL_law 435 = .ok (.iadd, 1) := by decide +kernel
theorem dL_law_436 : decode cL_law 436 = .ok (.iaload, 1) := by decide +kernel
theorem dL_law_437 : decode cL_law 437 = .ok (.aload_n 0, 1) := by decide +kernel
theorem dL_law_438 : decode cL_law 438 = .ok (.iload_n 3, 1) := by decide +kernel
theorem dL_law_439 : decode cL_law 439 = .ok (.iconst 2, 1) := by decide +kernel
theorem dL_law_440 : decode cL_law 440 = .ok (.iadd, 1) := by decide +kernel
theorem dL_law_441 : decode cL_law 441 = .ok (.iaload, 1) := by decide +kernel
