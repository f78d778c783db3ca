set_option maxHeartbeats 4000000 in
set_option maxRecDepth 100000 in
theorem cs_end (t_tape_size : Int32) (m_taped : Int32) (t_tape_bytes : Nat → Int32) (m_tape : Nat → Int32) (v1 : Int32) (hT : PT t_tape_bytes t_tape_size m_tape m_taped) : ∃ (r : Int32) (o_t_tape_size : Int32) (o_m_taped : Int32), fX7_end t_tape_size v1 = some (r, o_t_tape_size) ∧ fX8_end m_taped v1 = some (r, o_m_taped) ∧ PT t_tape_bytes o_t_tape_size m_tape o_m_taped := by
  obtain ⟨n, hn, rfl, rfl, hb⟩ := id hT
  have hin : fX8_in v1.toInt64 0 (nI n).toInt64 = if 0 ≤ v1.toInt ∧ v1.toInt ≤ (n : Int) then 1 else 0 := by rw [in_spec, Int32.toInt_toInt64, nI_int (by omega)]; rfl
  by_cases c : 0 ≤ v1.toInt ∧ v1.toInt ≤ (n : Int)
  · obtain ⟨k, rfl, hk, -⟩ := int_nat c.1
    have d1 : ¬ nI k < 0 := fun q => absurd ((lt0_iff _).mp q) (by omega)
    have d2 : nI k ≤ nI n := (nI_le_r (by omega)).mpr c.2
    exact ⟨nI k, nI k, nI k, by simp only [fX7_end, if_neg d1, if_pos d2], by simp only [fX8_end, hin, if_pos c, e10, if_false], k, by omega, rfl, rfl, fun j hj => hb j (by omega)⟩
  · by_cases c1 : v1.toInt < 0
    · have d1 : v1 < 0 := (lt0_iff _).mpr c1
      exact ⟨-1, nI n, nI n, by simp only [fX7_end, if_pos d1], by simp only [fX8_end, hin, if_neg c, if_true], hT⟩
    · have d1 : ¬ v1 < 0 := fun q => c1 ((lt0_iff _).mp q)
      have d2 : ¬ v1 ≤ nI n := fun q => absurd ((nI_le_r (by omega)).mp q) (by omega)
      exact ⟨-1, nI n, nI n, by simp only [fX7_end, if_neg d1, if_neg d2], by simp only [fX8_end, hin, if_neg c, if_true], hT⟩
set_option maxHeartbeats 4000000 in
set_option maxRecDepth 100000 in
theorem cs_fault (t_reader_fault : Int32) (t_reader_place : Int32) (m_faultKind : Int32) (m_faultPlace : Int32) (v1 : Int32) (hF : PF t_reader_fault t_reader_place m_faultKind m_faultPlace) : ∃ (r : Int32), fX7_fault t_reader_fault t_reader_place v1 = r ∧ fX8_fault m_faultKind m_faultPlace v1 = r := by
  obtain ⟨rfl, rfl⟩ := hF
  exact ⟨_, rfl, rfl⟩
set_option maxHeartbeats 4000000 in
set_option maxRecDepth 100000 in
theorem cs_count (t_tape_size : Int32) (t_now_sizes : Nat → Int32) (t_now_rooms : Nat → Int32) (t_now_lines : Int32) (t_now_kinds : Int32) (t_now_acts : Int32) (m_mem : Nat → Int32) (m_acted : Int32) (m_taped : Int32) (t_now_numbers : Nat → Int32) (t_now_cells : Nat → Int32) (t_now_rows : Nat → Int32) (t_now_told : Int32) (m_past : Nat → Int32) (t_tape_bytes : Nat → Int32) (m_tape : Nat → Int32) (v1 : Int32) (hN : PN t_now_numbers t_now_cells t_now_rows t_now_sizes t_now_rooms t_now_told t_now_lines t_now_kinds t_now_acts m_mem m_acted m_past) (hT : PT t_tape_bytes t_tape_size m_tape m_taped) : ∃ (r : Int32), fX7_count t_tape_size t_now_sizes t_now_rooms t_now_lines t_now_kinds t_now_acts v1 = some r ∧ fX8_count m_mem m_acted m_taped v1 = some r := by
  obtain ⟨n, hn, rfl, rfl, -⟩ := hT
  have key : ∀ (x0 x1 x2 x3 x4 x5 : Int32), ∃ r : Int32, (if v1 = 0 then some x0 else (if v1 = 1 then some x1 else (if v1 = 2 then some x2 else (if v1 = 3 then some x3 else (if v1 = 4 then some x4 else (if v1 = 5 then some x5 else some (-1))))))) = some r := by
    intro x0 x1 x2 x3 x4 x5
    repeat' split
    all_goals exact ⟨_, rfl⟩
  rcases hN with hN | hN
  · obtain ⟨kn, a, ln, rfl, rfl, rfl, rfl, ha, rfl, hln1, hln2, hPl, hpast, hs⟩ := id hN
    obtain ⟨l, rm, hl8, hlt, hrm1, hrm8, hrow, hsize, hroom, m0, m1, m2, m3, mk, mt⟩ := id hs
    obtain ⟨r, hr⟩ := key (nI rm) (nI kn) (nI l.length) (nI a) (nI ln) (nI n)
    exact ⟨r, by simp only [fX7_count, cRoom ha, cPlies ha, hroom, hsize, Option.bind_some]; exact hr, by simp only [fX8_count, m0, m1, m2, m3]; exact hr⟩
  · obtain ⟨-, rfl, rfl, rfl, rfl, h6, h7, h8, h9⟩ := id hN
    obtain ⟨r, hr⟩ := key 0 0 0 0 0 (nI n)
    have p1 : fX1_roomNow t_now_rooms 0 = some 0 := by rw [lit_nI0, cRoom (by omega), h8]; rfl
    have p2 : fX1_plies t_now_sizes 0 = some 0 := by rw [lit_nI0, cPlies (by omega), h7]; rfl
    exact ⟨r, by simp only [fX7_count, p1, p2, Option.bind_some]; exact hr, by simp only [fX8_count, h9 0 (by omega), h9 1 (by omega), h9 2 (by omega), h9 3 (by omega)]; exact hr⟩
set_option maxHeartbeats 4000000 in
set_option maxRecDepth 100000 in
theorem cs_swap (t_now_rows : Nat → Int32) (t_now_sizes : Nat → Int32) (t_now_rooms : Nat → Int32) (t_now_told : Int32) (t_now_acts : Int32) (m_mem : Nat → Int32) (m_acted : Int32) (m_past : Nat → Int32) (t_now_numbers : Nat → Int32) (t_now_cells : Nat → Int32) (t_now_lines : Int32) (t_now_kinds : Int32) (v1 : Int32) (v2 : Int32) (hN : PN t_now_numbers t_now_cells t_now_rows t_now_sizes t_now_rooms t_now_told t_now_lines t_now_kinds t_now_acts m_mem m_acted m_past) : ∃ (r : Int32) (o_t_now_rows : Nat → Int32) (o_t_now_sizes : Nat → Int32) (o_t_now_rooms : Nat → Int32) (o_t_now_acts : Int32) (o_m_mem : Nat → Int32) (o_m_acted : Int32) (o_m_past : Nat → Int32), fX7_swap t_now_rows t_now_sizes t_now_rooms t_now_told t_now_acts v1 v2 = some (r, o_t_now_rows, o_t_now_sizes, o_t_now_rooms, o_t_now_acts) ∧ fX8_swap m_mem m_acted m_past v1 v2 = some (r, o_m_mem, o_m_acted, o_m_past) ∧ PN t_now_numbers t_now_cells o_t_now_rows o_t_now_sizes o_t_now_rooms t_now_told t_now_lines t_now_kinds o_t_now_acts o_m_mem o_m_acted o_m_past := by
  rcases hN with hN | hN
  · obtain ⟨kn, a, ln, rfl, rfl, rfl, rfl, ha, hlines, hln1, hln2, hPl, hpast, hs⟩ := id hN
    obtain ⟨l, rm, hl8, hlt, hrm1, hrm8, hrow, hsize, hroom, m0, m1, m2, m3, mk, mt⟩ := id hs
    have hk3 := hPl.1
    have hn : l.length < 1000 := by omega
    have hR : R16 l := ⟨fun t ht => by have := hlt t ht; omega, hl8⟩
    by_cases c1 : 0 ≤ v1.toInt ∧ v1.toInt < l.length
    · by_cases c2 : 0 ≤ v2.toInt ∧ v2.toInt < l.length
      · obtain ⟨i, rfl, hi, -⟩ := int_nat c1.1
        obtain ⟨j, rfl, hj, -⟩ := int_nat c2.1
        have hi8 : i < l.length := by omega
        have hj8 : j < l.length := by omega
        have ki : i < 8 := by omega
        have kj : j < 8 := by omega
        have gi := getD_lt12 hR i
        have gj := getD_lt12 hR j
        by_cases e : l.getD i 0 = l.getD j 0
        · have e' : nI (l.getD i 0) = nI (l.getD j 0) := by rw [e]
          exact ⟨-5, t_now_rows, t_now_sizes, t_now_rooms, nI a, m_mem, nI a, m_past, by simp only [fX7_swap, cIsPly ha hsize hn, if_pos c1, if_pos c2, Option.bind_some, e10, if_false, cTypeAt ha hR hrow ki, cTypeAt ha hR hrow kj, if_pos e'], by simp only [fX8_swap, mIsPly m2 hn, if_pos c1, if_pos c2, Option.bind_some, e10, if_false, chk19 ki, chk19 kj, clamp19 ki, mt i hi8, clamp19 kj, mt j hj8, if_pos e'], Or.inl hN⟩
        · have e' := nI_ne e (by omega) (by omega)
          by_cases f : a < 30
          · refine ⟨0, _, _, _, _, _, _, _, by simp only [fX7_swap, cIsPly ha hsize hn, if_pos c1, if_pos c2, Option.bind_some, e10, if_false, cTypeAt ha hR hrow ki, cTypeAt ha hR hrow kj, if_neg e', cFull ha, if_pos f, if_true, cRow ha, cPlies ha, cRoom ha, hrow, with_pk hR gj hi8, with_pk (hR.set gj) gi (show j < (l.set i (l.getD j 0)).length by rw [List.length_set]; omega), cAct f, ob4_some]; rfl, by simp only [fX8_swap, mIsPly m2 hn, if_pos c1, if_pos c2, Option.bind_some, e10, if_false, chk19 ki, chk19 kj, clamp19 ki, mt i hi8, clamp19 kj, mt j hj8, if_neg e', mFull ha, if_pos f, if_true, mKeeps f, ob2_some]; rfl, Or.inl ?_⟩
            have hlen : ((l.set i (l.getD j 0)).set j (l.getD i 0)).length = l.length := by rw [List.length_set, List.length_set]
            rw [hsize, hroom]
            refine PNt.act f hlines hln1 hln2 hPl hpast hs ?_
            rw [← hlen]
            refine Snap.types hk3 hrm1 hrm8 m0 m1 m3 mk (by omega) ?_ ?_ ?_ ?_
            · intro t ht
              rcases mem_set ht with q | q
              · rcases mem_set q with q | q
                · exact hlt t q
                · rw [q]; exact hlt _ (getD_mem hj8)
              · rw [q]; exact hlt _ (getD_mem hi8)
            · intro k h1 h2
              rw [upd_ne _ _ (by omega), upd_ne _ _ (by omega)]
            · rw [upd_ne _ _ (by omega), upd_ne _ _ (by omega), hlen]
              exact m2
            · intro p hp
              rw [hlen] at hp
              rw [getD_set (by rw [List.length_set]; omega), getD_set hi8]
              by_cases e1 : p = j
              · rw [if_pos e1, e1, upd_same]
              · rw [if_neg e1, upd_ne _ _ (by omega)]
                by_cases e2 : p = i
                · rw [if_pos e2, e2, upd_same]
                · rw [if_neg e2, upd_ne _ _ (by omega)]
                  exact mt p hp
          · exact ⟨-5, t_now_rows, t_now_sizes, t_now_rooms, nI a, m_mem, nI a, m_past, by simp only [fX7_swap, cIsPly ha hsize hn, if_pos c1, if_pos c2, Option.bind_some, e10, if_false, cTypeAt ha hR hrow ki, cTypeAt ha hR hrow kj, if_neg e', cFull ha, if_neg f], by simp only [fX8_swap, mIsPly m2 hn, if_pos c1, if_pos c2, Option.bind_some, e10, if_false, chk19 ki, chk19 kj, clamp19 ki, mt i hi8, clamp19 kj, mt j hj8, if_neg e', mFull ha, if_neg f], Or.inl hN⟩
      · exact ⟨-2, t_now_rows, t_now_sizes, t_now_rooms, nI a, m_mem, nI a, m_past, by simp only [fX7_swap, cIsPly ha hsize hn, if_pos c1, if_neg c2, Option.bind_some, e10, if_false, if_true], by simp only [fX8_swap, mIsPly m2 hn, if_pos c1, if_neg c2, Option.bind_some, e10, if_false, if_true], Or.inl hN⟩
    · exact ⟨-2, t_now_rows, t_now_sizes, t_now_rooms, nI a, m_mem, nI a, m_past, by simp only [fX7_swap, cIsPly ha hsize hn, if_neg c1, Option.bind_some, if_true], by simp only [fX8_swap, mIsPly m2 hn, if_neg c1, Option.bind_some, if_true], Or.inl hN⟩
  · obtain ⟨rfl, h2, h3, h4, h5, h6, h7, h8, h9⟩ := id hN
    have m2 : m_mem 2 = nI 0 := h9 2 (by omega)
    have c1 : ¬ (0 ≤ v1.toInt ∧ v1.toInt < ((0 : Nat) : Int)) := by omega
    exact ⟨-2, t_now_rows, t_now_sizes, t_now_rooms, t_now_acts, m_mem, m_acted, m_past, by simp only [fX7_swap, fX7_isPly, Option.bind_some, if_true], by simp only [fX8_swap, mIsPly m2 (show 0 < 1000 by omega), if_neg c1, Option.bind_some, if_true], Or.inr hN⟩
set_option maxHeartbeats 4000000 in
set_option maxRecDepth 100000 in
theorem cs_turn (t_now_rows : Nat → Int32) (t_now_sizes : Nat → Int32) (t_now_rooms : Nat → Int32) (t_now_told : Int32) (t_now_acts : Int32) (m_mem : Nat → Int32) (m_acted : Int32) (m_past : Nat → Int32) (t_now_numbers : Nat → Int32) (t_now_cells : Nat → Int32) (t_now_lines : Int32) (t_now_kinds : Int32) (v1 : Int32) (v2 : Int32) (hN : PN t_now_numbers t_now_cells t_now_rows t_now_sizes t_now_rooms t_now_told t_now_lines t_now_kinds t_now_acts m_mem m_acted m_past) : ∃ (r : Int32) (o_t_now_rows : Nat → Int32) (o_t_now_sizes : Nat → Int32) (o_t_now_rooms : Nat → Int32) (o_t_now_acts : Int32) (o_m_mem : Nat → Int32) (o_m_acted : Int32) (o_m_past : Nat → Int32), fX7_turn t_now_rows t_now_sizes t_now_rooms t_now_told t_now_acts v1 v2 = some (r, o_t_now_rows, o_t_now_sizes, o_t_now_rooms, o_t_now_acts) ∧ fX8_turn m_mem m_acted m_past v1 v2 = some (r, o_m_mem, o_m_acted, o_m_past) ∧ PN t_now_numbers t_now_cells o_t_now_rows o_t_now_sizes o_t_now_rooms t_now_told t_now_lines t_now_kinds o_t_now_acts o_m_mem o_m_acted o_m_past := by
  rcases hN with hN | hN
  · obtain ⟨kn, a, ln, rfl, rfl, rfl, rfl, ha, hlines, hln1, hln2, hPl, hpast, hs⟩ := id hN
    obtain ⟨l, rm, hl8, hlt, hrm1, hrm8, hrow, hsize, hroom, m0, m1, m2, m3, mk, mt⟩ := id hs
    have hk3 := hPl.1
    have hn : l.length < 1000 := by omega
    have hR : R16 l := ⟨fun t ht => by have := hlt t ht; omega, hl8⟩
    by_cases c1 : 0 ≤ v1.toInt ∧ v1.toInt < l.length
    · by_cases c2 : 0 ≤ v2.toInt ∧ v2.toInt < 4
      · obtain ⟨i, rfl, hi, -⟩ := int_nat c1.1
        obtain ⟨j, rfl, hj, -⟩ := int_nat c2.1
        have hi8 : i < l.length := by omega
        have ki : i < 8 := by omega
        have gi := getD_lt12 hR i
        have gk := hlt _ (getD_mem hi8)
        have er : irem (nI (l.getD i 0)) 4 = nI (l.getD i 0 % 4) := irem_nI (b := 4) (by omega) (by omega) (by omega)
        by_cases e : l.getD i 0 % 4 = j
        · have e' : nI (l.getD i 0 % 4) = nI j := by rw [e]
          exact ⟨-5, t_now_rows, t_now_sizes, t_now_rooms, nI a, m_mem, nI a, m_past, by simp only [fX7_turn, cIsPly ha hsize hn, if_pos c1, cIsAngle, if_pos c2, Option.bind_some, e10, if_false, cTypeAt ha hR hrow ki, er, if_pos e'], by simp only [fX8_turn, mIsPly m2 hn, if_pos c1, mIn3, if_pos c2, Option.bind_some, e10, if_false, chk19 ki, clamp19 ki, mt i hi8, er, if_pos e'], Or.inl hN⟩
        · have e' := nI_ne e (by omega) (by omega)
          by_cases f : a < 30
          · have ev : nI (l.getD i 0) + (nI j - nI (l.getD i 0 % 4)) = nI (l.getD i 0 - l.getD i 0 % 4 + j) := by
              rw [nI_i32, nI_i32, nI_i32, nI_i32, ← i32_sub, ← i32_add]
              congr 1
              omega
            have ew : (nI (l.getD i 0) - nI (l.getD i 0 % 4)) + nI j = nI (l.getD i 0 - l.getD i 0 % 4 + j) := by rw [nI_sub (Nat.mod_le _ _), nI_add]
            refine ⟨nI (l.getD i 0 % 4), _, _, _, _, _, _, _, by simp only [fX7_turn, cIsPly ha hsize hn, if_pos c1, cIsAngle, if_pos c2, Option.bind_some, e10, if_false, cTypeAt ha hR hrow ki, er, if_neg e', cFull ha, if_pos f, if_true, cRow ha, cPlies ha, cRoom ha, hrow, ew, with_pk hR (show l.getD i 0 - l.getD i 0 % 4 + j < 12 by omega) hi8, cAct f, ob4_some]; rfl, by simp only [fX8_turn, mIsPly m2 hn, if_pos c1, mIn3, if_pos c2, Option.bind_some, e10, if_false, chk19 ki, clamp19 ki, mt i hi8, er, if_neg e', mFull ha, if_pos f, if_true, mKeeps f, ob2_some, ev]; rfl, Or.inl ?_⟩
            have hlen : (l.set i (l.getD i 0 - l.getD i 0 % 4 + j)).length = l.length := List.length_set
            rw [hsize, hroom]
            refine PNt.act f hlines hln1 hln2 hPl hpast hs ?_
            rw [← hlen]
            refine Snap.types hk3 hrm1 hrm8 m0 m1 m3 mk (by omega) ?_ ?_ ?_ ?_
            · intro t ht
              rcases mem_set ht with q | q
              · exact hlt t q
              · omega
            · intro k h1 h2
              rw [upd_ne _ _ (by omega)]
            · rw [upd_ne _ _ (by omega), hlen]
              exact m2
            · intro p hp
              rw [hlen] at hp
              rw [getD_set hi8]
              by_cases e1 : p = i
              · rw [if_pos e1, e1, upd_same]
              · rw [if_neg e1, upd_ne _ _ (by omega)]
                exact mt p hp
          · exact ⟨-5, t_now_rows, t_now_sizes, t_now_rooms, nI a, m_mem, nI a, m_past, by simp only [fX7_turn, cIsPly ha hsize hn, if_pos c1, cIsAngle, if_pos c2, Option.bind_some, e10, if_false, cTypeAt ha hR hrow ki, er, if_neg e', cFull ha, if_neg f], by simp only [fX8_turn, mIsPly m2 hn, if_pos c1, mIn3, if_pos c2, Option.bind_some, e10, if_false, chk19 ki, clamp19 ki, mt i hi8, er, if_neg e', mFull ha, if_neg f], Or.inl hN⟩
      · exact ⟨-2, t_now_rows, t_now_sizes, t_now_rooms, nI a, m_mem, nI a, m_past, by simp only [fX7_turn, cIsPly ha hsize hn, if_pos c1, cIsAngle, if_neg c2, Option.bind_some, e10, if_false, if_true], by simp only [fX8_turn, mIsPly m2 hn, if_pos c1, mIn3, if_neg c2, Option.bind_some, e10, if_false, if_true], Or.inl hN⟩
    · exact ⟨-2, t_now_rows, t_now_sizes, t_now_rooms, nI a, m_mem, nI a, m_past, by simp only [fX7_turn, cIsPly ha hsize hn, if_neg c1, Option.bind_some, if_true], by simp only [fX8_turn, mIsPly m2 hn, if_neg c1, Option.bind_some, if_true], Or.inl hN⟩
  · obtain ⟨rfl, h2, h3, h4, h5, h6, h7, h8, h9⟩ := id hN
    have m2 : m_mem 2 = nI 0 := h9 2 (by omega)
    have c1 : ¬ (0 ≤ v1.toInt ∧ v1.toInt < ((0 : Nat) : Int)) := by omega
    exact ⟨-2, t_now_rows, t_now_sizes, t_now_rooms, t_now_acts, m_mem, m_acted, m_past, by simp only [fX7_turn, fX7_isPly, Option.bind_some, if_true], by simp only [fX8_turn, mIsPly m2 (show 0 < 1000 by omega), if_neg c1, Option.bind_some, if_true], Or.inr hN⟩
set_option maxHeartbeats 4000000 in
set_option maxRecDepth 100000 in
theorem cs_room (t_now_rows : Nat → Int32) (t_now_sizes : Nat → Int32) (t_now_rooms : Nat → Int32) (t_now_told : Int32) (t_now_acts : Int32) (m_mem : Nat → Int32) (m_acted : Int32) (m_past : Nat → Int32) (t_now_numbers : Nat → Int32) (t_now_cells : Nat → Int32) (t_now_lines : Int32) (t_now_kinds : Int32) (v1 : Int32) (hN : PN t_now_numbers t_now_cells t_now_rows t_now_sizes t_now_rooms t_now_told t_now_lines t_now_kinds t_now_acts m_mem m_acted m_past) : ∃ (r : Int32) (o_t_now_rows : Nat → Int32) (o_t_now_sizes : Nat → Int32) (o_t_now_rooms : Nat → Int32) (o_t_now_acts : Int32) (o_m_mem : Nat → Int32) (o_m_acted : Int32) (o_m_past : Nat → Int32), fX7_room t_now_rows t_now_sizes t_now_rooms t_now_told t_now_acts v1 = some (r, o_t_now_rows, o_t_now_sizes, o_t_now_rooms, o_t_now_acts) ∧ fX8_room m_mem m_acted m_past v1 = some (r, o_m_mem, o_m_acted, o_m_past) ∧ PN t_now_numbers t_now_cells o_t_now_rows o_t_now_sizes o_t_now_rooms t_now_told t_now_lines t_now_kinds o_t_now_acts o_m_mem o_m_acted o_m_past := by
  rcases hN with hN | hN
  · obtain ⟨kn, a, ln, rfl, rfl, rfl, rfl, ha, hlines, hln1, hln2, hPl, hpast, hs⟩ := id hN
    obtain ⟨l, rm, hl8, hlt, hrm1, hrm8, hrow, hsize, hroom, m0, m1, m2, m3, mk, mt⟩ := id hs
    have hk3 := hPl.1
    have hin : fX8_in v1.toInt64 1 8 = if 1 ≤ v1.toInt ∧ v1.toInt ≤ 8 then 1 else 0 := in_spec v1 1 8
    by_cases c : 1 ≤ v1.toInt ∧ v1.toInt ≤ 8
    · obtain ⟨k, rfl, hk, -⟩ := int_nat (x := v1) (by omega)
      have d1 : ¬ nI k < 1 := fun q => absurd ((lt_nI (n := 1) (by omega)).mp q) (by omega)
      have d2 : nI k ≤ 8 := (nI_le_r (n := 8) (by omega)).mpr (by omega)
      by_cases e : k = rm
      · subst e
        exact ⟨-5, t_now_rows, t_now_sizes, t_now_rooms, nI a, m_mem, nI a, m_past, by simp only [fX7_room, e10, if_false, if_neg d1, if_pos d2, cRoom ha, hroom, Option.bind_some, if_true], by simp only [fX8_room, mIs (m3.trans hlines) hln1 hln2, Option.bind_some, e10, if_false, hin, if_pos c, m0, if_true], Or.inl hN⟩
      · have e1 := nI_ne e (by omega) (by omega)
        have e2 := nI_ne (fun q => e q.symm) (show rm < 2147483648 by omega) (show k < 2147483648 by omega)
        by_cases f : a < 30
        · refine ⟨0, _, _, _, _, _, _, _, by simp only [fX7_room, e10, if_false, if_neg d1, if_pos d2, cRoom ha, hroom, Option.bind_some, if_neg e1, cFull ha, if_pos f, if_true, cRow ha, cPlies ha, cAct f, ob4_some]; rfl, by simp only [fX8_room, mIs (m3.trans hlines) hln1 hln2, Option.bind_some, e10, if_false, hin, if_pos c, m0, if_neg e2, mFull ha, if_pos f, if_true, mKeeps f, ob2_some]; rfl, Or.inl (PNt.act f hlines hln1 hln2 hPl hpast hs ?_)⟩
          refine ⟨l, k, hl8, hlt, by omega, by omega, hrow, hsize, rfl, upd_same _ _ _, ?_, ?_, ?_, fun q hq => ?_, fun p hp => ?_⟩
          · rw [upd_ne _ _ (by omega)]; exact m1
          · rw [upd_ne _ _ (by omega)]; exact m2
          · rw [upd_ne _ _ (by omega)]; exact m3
          · rw [upd_ne _ _ (by omega)]; exact mk q hq
          · rw [upd_ne _ _ (by omega)]; exact mt p hp
        · exact ⟨-5, t_now_rows, t_now_sizes, t_now_rooms, nI a, m_mem, nI a, m_past, by simp only [fX7_room, e10, if_false, if_neg d1, if_pos d2, cRoom ha, hroom, Option.bind_some, if_neg e1, cFull ha, if_neg f], by simp only [fX8_room, mIs (m3.trans hlines) hln1 hln2, Option.bind_some, e10, if_false, hin, if_pos c, m0, if_neg e2, mFull ha, if_neg f], Or.inl hN⟩
    · by_cases c1 : v1.toInt < 1
      · have d1 : v1 < 1 := (lt_nI (n := 1) (by omega)).mpr c1
        exact ⟨-2, t_now_rows, t_now_sizes, t_now_rooms, nI a, m_mem, nI a, m_past, by simp only [fX7_room, e10, if_false, if_pos d1], by simp only [fX8_room, mIs (m3.trans hlines) hln1 hln2, Option.bind_some, e10, if_false, hin, if_neg c, if_true], Or.inl hN⟩
      · have d1 : ¬ v1 < 1 := fun q => c1 ((lt_nI (n := 1) (by omega)).mp q)
        have d2 : ¬ v1 ≤ 8 := fun q => absurd ((nI_le_r (n := 8) (by omega)).mp q) (by omega)
        exact ⟨-2, t_now_rows, t_now_sizes, t_now_rooms, nI a, m_mem, nI a, m_past, by simp only [fX7_room, e10, if_false, if_neg d1, if_neg d2], by simp only [fX8_room, mIs (m3.trans hlines) hln1 hln2, Option.bind_some, e10, if_false, hin, if_neg c, if_true], Or.inl hN⟩
  · obtain ⟨rfl, h2, h3, h4, h5, h6, h7, h8, h9⟩ := id hN
    exact ⟨-2, t_now_rows, t_now_sizes, t_now_rooms, t_now_acts, m_mem, m_acted, m_past, by simp only [fX7_room, if_true], by simp only [fX8_room, mIs0 (h9 3 (by omega)), Option.bind_some, if_true], Or.inr hN⟩
set_option maxHeartbeats 4000000 in
set_option maxRecDepth 100000 in
theorem cs_undo (t_now_told : Int32) (t_now_acts : Int32) (m_mem : Nat → Int32) (m_acted : Int32) (m_past : Nat → Int32) (t_now_numbers : Nat → Int32) (t_now_cells : Nat → Int32) (t_now_rows : Nat → Int32) (t_now_sizes : Nat → Int32) (t_now_rooms : Nat → Int32) (t_now_lines : Int32) (t_now_kinds : Int32)  (hN : PN t_now_numbers t_now_cells t_now_rows t_now_sizes t_now_rooms t_now_told t_now_lines t_now_kinds t_now_acts m_mem m_acted m_past) : ∃ (r : Int32) (o_t_now_acts : Int32) (o_m_mem : Nat → Int32) (o_m_acted : Int32), fX7_undo t_now_told t_now_acts = some (r, o_t_now_acts) ∧ fX8_undo m_mem m_acted m_past = some (r, o_m_mem, o_m_acted) ∧ PN t_now_numbers t_now_cells t_now_rows t_now_sizes t_now_rooms t_now_told t_now_lines t_now_kinds o_t_now_acts o_m_mem o_m_acted m_past := by
  rcases hN with hN | hN
  · obtain ⟨kn, a, ln, rfl, rfl, rfl, rfl, ha, rfl, hln1, hln2, hPl, hpast, hs⟩ := id hN
    obtain ⟨l, rm, hl8, hlt, hrm1, hrm8, hrow, hsize, hroom, m0, m1, m2, m3, mk, mt⟩ := id hs
    by_cases e : a = 0
    · subst e
      have e' : nI 0 = 0 := rfl
      exact ⟨-5, nI 0, m_mem, nI 0, by simp only [fX7_undo, e10, if_false, if_pos e'], by simp only [fX8_undo, mIs m3 hln1 hln2, Option.bind_some, e10, if_false, if_pos e'], Or.inl hN⟩
    · have e' : ¬ nI a = 0 := nI_ne (b := 0) e (by omega) (by omega)
      have es : nI a - 1 = nI (a - 1) := nI_sub (b := 1) (by omega)
      refine ⟨nI (a - 1), _, _, _, by simp only [fX7_undo, e10, if_false, if_neg e', es], by simp only [fX8_undo, mIs m3 hln1 hln2, Option.bind_some, e10, if_false, if_neg e', es, mBack (show a - 1 < 30 by omega), ob2_some]; rfl, Or.inl ⟨kn, a - 1, ln, rfl, rfl, rfl, rfl, by omega, rfl, hln1, hln2, hPl, fun j hj => hpast j (by omega), ?_⟩⟩
      refine Snap.congr hPl.1 (fun k hk => ?_) (hpast (a - 1) (by omega))
      show gb m_mem m_past (a - 1) 0 k = m_past (27 * (a - 1) + k)
      unfold gb
      rw [if_pos (by omega)]
  · obtain ⟨rfl, h2, h3, h4, h5, h6, h7, h8, h9⟩ := id hN
    exact ⟨-2, t_now_acts, m_mem, m_acted, by simp only [fX7_undo, if_true], by simp only [fX8_undo, mIs0 (h9 3 (by omega)), Option.bind_some, if_true], Or.inr hN⟩
set_option maxHeartbeats 4000000 in
set_option maxRecDepth 100000 in
theorem cs_anew (t_now_told : Int32) (t_now_acts : Int32) (m_mem : Nat → Int32) (m_acted : Int32) (m_past : Nat → Int32) (t_now_numbers : Nat → Int32) (t_now_cells : Nat → Int32) (t_now_rows : Nat → Int32) (t_now_sizes : Nat → Int32) (t_now_rooms : Nat → Int32) (t_now_lines : Int32) (t_now_kinds : Int32)  (hN : PN t_now_numbers t_now_cells t_now_rows t_now_sizes t_now_rooms t_now_told t_now_lines t_now_kinds t_now_acts m_mem m_acted m_past) : ∃ (r : Int32) (o_t_now_acts : Int32) (o_m_mem : Nat → Int32) (o_m_acted : Int32), fX7_anew t_now_told t_now_acts = some (r, o_t_now_acts) ∧ fX8_anew m_mem m_acted m_past = some (r, o_m_mem, o_m_acted) ∧ PN t_now_numbers t_now_cells t_now_rows t_now_sizes t_now_rooms t_now_told t_now_lines t_now_kinds o_t_now_acts o_m_mem o_m_acted m_past := by
  rcases hN with hN | hN
  · obtain ⟨kn, a, ln, rfl, rfl, rfl, rfl, ha, rfl, hln1, hln2, hPl, hpast, hs⟩ := id hN
    obtain ⟨l, rm, hl8, hlt, hrm1, hrm8, hrow, hsize, hroom, m0, m1, m2, m3, mk, mt⟩ := id hs
    by_cases e : a = 0
    · subst e
      have e' : nI 0 ≤ 0 := by decide
      exact ⟨nI 0, nI 0, m_mem, nI 0, by simp only [fX7_anew, e10, if_false]; rfl, by simp only [fX8_anew, mIs m3 hln1 hln2, Option.bind_some, e10, if_false, if_pos e'], Or.inl hN⟩
    · have e' : ¬ nI a ≤ 0 := fun q => absurd ((nI_le' (b := 0) (by omega) (by omega)).mp q) (by omega)
      refine ⟨nI a, nI 0, _, _, by simp only [fX7_anew, e10, if_false]; rfl, by simp only [fX8_anew, mIs m3 hln1 hln2, Option.bind_some, e10, if_false, if_neg e', mBack0, ob2_some]; rfl, Or.inl ⟨kn, 0, ln, rfl, rfl, rfl, rfl, by omega, rfl, hln1, hln2, hPl, fun j hj => absurd hj (by omega), ?_⟩⟩
      refine Snap.congr hPl.1 (fun k hk => ?_) (hpast 0 (by omega))
      show gb m_mem m_past 0 0 k = m_past (27 * 0 + k)
      unfold gb
      rw [if_pos (by omega)]
  · obtain ⟨rfl, h2, h3, h4, h5, h6, h7, h8, h9⟩ := id hN
    exact ⟨-2, t_now_acts, m_mem, m_acted, by simp only [fX7_anew, if_true], by simp only [fX8_anew, mIs0 (h9 3 (by omega)), Option.bind_some, if_true], Or.inr hN⟩
