set_option maxHeartbeats 1000000 in
set_option maxRecDepth 100000 in
theorem cs_end (t_tape_size : Int32) (m_taped : Int32) (t_tape_bytes : Nat → Int32) (m_tape : Nat → Int32) (v1 : Int32) (hT : PT t_tape_bytes t_tape_size m_tape m_taped) : ∃ (r : Int32) (o_t_tape_size : Int32) (o_m_taped : Int32), fX7_end t_tape_size v1 = some (r, o_t_tape_size) ∧ fX8_end m_taped v1 = some (r, o_m_taped) ∧ PT t_tape_bytes o_t_tape_size m_tape o_m_taped := by
  obtain ⟨n, hn, rfl, rfl, hb⟩ := id hT
  have hin : fX8_in v1.toInt64 0 (nI n).toInt64 = if 0 ≤ v1.toInt ∧ v1.toInt ≤ (n : Int) then 1 else 0 := by rw [in_spec, Int32.toInt_toInt64, nI_int (by omega)]; rfl
  by_cases c : 0 ≤ v1.toInt ∧ v1.toInt ≤ (n : Int)
  · obtain ⟨k, rfl, hk, -⟩ := int_nat c.1
    have d1 : ¬ nI k < 0 := fun q => absurd ((lt0_iff _).mp q) (by omega)
    have d2 : nI k ≤ nI n := (nI_le_r (by omega)).mpr c.2
    exact ⟨nI k, nI k, nI k, by simp only [fX7_end, if_neg d1, if_pos d2], by simp only [fX8_end, hin, if_pos c, e10, if_false], k, by omega, rfl, rfl, fun j hj => hb j (by omega)⟩
  · by_cases c1 : v1.toInt < 0
    · have d1 : v1 < 0 := (lt0_iff _).mpr c1
      exact ⟨-1, nI n, nI n, by simp only [fX7_end, if_pos d1], by simp only [fX8_end, hin, if_neg c, if_true], hT⟩
    · have d1 : ¬ v1 < 0 := fun q => c1 ((lt0_iff _).mp q)
      have d2 : ¬ v1 ≤ nI n := fun q => absurd ((nI_le_r (by omega)).mp q) (by omega)
      exact ⟨-1, nI n, nI n, by simp only [fX7_end, if_neg d1, if_neg d2], by simp only [fX8_end, hin, if_neg c, if_true], hT⟩
set_option maxHeartbeats 1000000 in
set_option maxRecDepth 100000 in
theorem cs_fault (t_reader_fault : Int32) (t_reader_place : Int32) (m_faultKind : Int32) (m_faultPlace : Int32) (v1 : Int32) (hF : PF t_reader_fault t_reader_place m_faultKind m_faultPlace) : ∃ (r : Int32), fX7_fault t_reader_fault t_reader_place v1 = r ∧ fX8_fault m_faultKind m_faultPlace v1 = r := by
  obtain ⟨rfl, rfl⟩ := hF
  exact ⟨_, rfl, rfl⟩
set_option maxHeartbeats 1000000 in
set_option maxRecDepth 100000 in
theorem cs_count (t_tape_size : Int32) (t_now_sizes : Nat → Int32) (t_now_rooms : Nat → Int32) (t_now_lines : Int32) (t_now_kinds : Int32) (t_now_acts : Int32) (m_mem : Nat → Int32) (m_acted : Int32) (m_taped : Int32) (t_now_numbers : Nat → Int32) (t_now_cells : Nat → Int32) (t_now_rows : Nat → Int32) (t_now_told : Int32) (m_past : Nat → Int32) (t_tape_bytes : Nat → Int32) (m_tape : Nat → Int32) (v1 : Int32) (hN : PN t_now_numbers t_now_cells t_now_rows t_now_sizes t_now_rooms t_now_told t_now_lines t_now_kinds t_now_acts m_mem m_acted m_past) (hT : PT t_tape_bytes t_tape_size m_tape m_taped) : ∃ (r : Int32), fX7_count t_tape_size t_now_sizes t_now_rooms t_now_lines t_now_kinds t_now_acts v1 = some r ∧ fX8_count m_mem m_acted m_taped v1 = some r := by
  obtain ⟨n, hn, rfl, rfl, -⟩ := hT
  have key : ∀ (x0 x1 x2 x3 x4 x5 : Int32), ∃ r : Int32, (if v1 = 0 then some x0 else (if v1 = 1 then some x1 else (if v1 = 2 then some x2 else (if v1 = 3 then some x3 else (if v1 = 4 then some x4 else (if v1 = 5 then some x5 else some (-1))))))) = some r := by
    intro x0 x1 x2 x3 x4 x5
    repeat' split
    all_goals exact ⟨_, rfl⟩
  rcases hN with hN | hN
  · obtain ⟨kn, a, ln, rfl, rfl, rfl, rfl, ha, rfl, hln1, hln2, hPl, hpast, hs⟩ := id hN
    obtain ⟨l, rm, hl8, hlt, hrm1, hrm8, hrow, hsize, hroom, m0, m1, m2, m3, mk, mt⟩ := id hs
    obtain ⟨r, hr⟩ := key (nI rm) (nI kn) (nI l.length) (nI a) (nI ln) (nI n)
    exact ⟨r, by simp only [fX7_count, cRoom ha, cPlies ha, hroom, hsize, Option.bind_some]; exact hr, by simp only [fX8_count, m0, m1, m2, m3]; exact hr⟩
  · obtain ⟨-, rfl, rfl, rfl, rfl, h6, h7, h8, h9⟩ := id hN
    obtain ⟨r, hr⟩ := key 0 0 0 0 0 (nI n)
    have p1 : fX1_roomNow t_now_rooms 0 = some 0 := by rw [lit_nI0, cRoom (by omega), h8]; rfl
    have p2 : fX1_plies t_now_sizes 0 = some 0 := by rw [lit_nI0, cPlies (by omega), h7]; rfl
    exact ⟨r, by simp only [fX7_count, p1, p2, Option.bind_some]; exact hr, by simp only [fX8_count, h9 0 (by omega), h9 1 (by omega), h9 2 (by omega), h9 3 (by omega)]; exact hr⟩
set_option maxHeartbeats 1000000 in
set_option maxRecDepth 100000 in
theorem cs_kind (t_now_numbers : Nat → Int32) (t_now_rows : Nat → Int32) (t_now_sizes : Nat → Int32) (t_now_told : Int32) (t_now_kinds : Int32) (t_now_acts : Int32) (m_mem : Nat → Int32) (t_now_cells : Nat → Int32) (t_now_rooms : Nat → Int32) (t_now_lines : Int32) (m_acted : Int32) (m_past : Nat → Int32) (v1 : Int32) (v2 : Int32) (hN : PN t_now_numbers t_now_cells t_now_rows t_now_sizes t_now_rooms t_now_told t_now_lines t_now_kinds t_now_acts m_mem m_acted m_past) : ∃ (r : Int32), fX7_kind t_now_numbers t_now_rows t_now_sizes t_now_told t_now_kinds t_now_acts v1 v2 = some r ∧ fX8_kind m_mem v1 v2 = some r := by
  rcases hN with hN | hN
  · obtain ⟨kn, a, l, rm, nb, rfl, rfl, rfl, rfl, h⟩ := hN.view
    by_cases c1 : 0 ≤ v1.toInt ∧ v1.toInt < kn
    · by_cases c2 : 0 ≤ v2.toInt ∧ v2.toInt ≤ 5
      · obtain ⟨i, rfl, hi, -⟩ := int_nat c1.1
        obtain ⟨j, rfl, hj, -⟩ := int_nat c2.1
        have k3 := h.kn3
        have q5 : (nI j ≤ 5) = True := eq_true ((le5_iff _).mpr c2.2)
        by_cases c5 : j = 5
        · subst c5
          exact ⟨nI (kc l i), by simp only [fX7_kind, h.ckind, if_pos c1, nn0 c2.1, q5, e10, if_false, if_true]; rw [if_pos (show nI 5 = 5 from rfl), h.ofKind (by omega), Option.bind_some], by simp only [fX8_kind, h.mkind, if_pos c1, mIn5, if_pos c2, Option.bind_some, e10, if_false]; rw [if_pos (show (5 : Int32) ≤ nI 5 by decide)]; exact (kind_loop h.R h.m2 h.mt (t := i) (by omega) l.length FU 0 0 (by omega) (FU_gt (by have := h.len; omega))).trans (by rw [Nat.zero_add]; rfl)⟩
        · have e1 : (5 : Int32) * nI i + nI j = nI (5 * i + j) := by rw [lit_nI5, nI_mul, nI_add]
          have e2 : (4 : Int32) + 5 * nI i + nI j = nI (4 + (5 * i + j)) := by rw [lit_nI5, lit_nI4, nI_mul, nI_add, nI_add, Nat.add_assoc]
          exact ⟨i32 (nb (5 * i + j)), by simp only [fX7_kind, h.ckind, if_pos c1, nn0 c2.1, q5, e10, if_false, if_true]; rw [if_neg (show ¬ nI j = (5 : Int32) from nI_ne (b := 5) c5 (by omega) (by omega)), cNumber h (by omega) (by omega), Option.bind_some], by simp only [fX8_kind, h.mkind, if_pos c1, mIn5, if_pos c2, Option.bind_some, e10, if_false, e2]; rw [if_neg (fun q => by have := (nI_le' (a := 5) (by omega) (by omega)).mp q; omega), chkN (by omega) (by omega), nI_clamp' (by omega), h.mk.2 _ (by omega)]⟩
      · refine ⟨-2, ?_, by simp only [fX8_kind, h.mkind, if_pos c1, mIn5, if_neg c2, Option.bind_some, e10, if_false, if_true]⟩
        simp only [fX7_kind, h.ckind, if_pos c1, e10, if_false]
        exact out_lo le5_iff c2
    · exact ⟨-2, by simp only [fX7_kind, h.ckind, if_neg c1, if_true], by simp only [fX8_kind, h.mkind, if_neg c1, Option.bind_some, if_true]⟩
  · obtain ⟨rfl, h2, h3, h4, h5, h6, h7, h8, h9⟩ := id hN
    exact ⟨-2, by simp only [fX7_kind, fX7_isKind, if_true], by simp only [fX8_kind, mIsKind (show m_mem 1 = nI 0 from h9 1 (by omega)) (show 0 < 1000 by omega), if_neg (show ¬ (0 ≤ v1.toInt ∧ v1.toInt < ((0 : Nat) : Int)) by omega), Option.bind_some, if_true]⟩
set_option maxHeartbeats 1000000 in
set_option maxRecDepth 100000 in
theorem cs_ply (t_now_rows : Nat → Int32) (t_now_sizes : Nat → Int32) (t_now_told : Int32) (t_now_acts : Int32) (m_mem : Nat → Int32) (t_now_numbers : Nat → Int32) (t_now_cells : Nat → Int32) (t_now_rooms : Nat → Int32) (t_now_lines : Int32) (t_now_kinds : Int32) (m_acted : Int32) (m_past : Nat → Int32) (v1 : Int32) (v2 : Int32) (hN : PN t_now_numbers t_now_cells t_now_rows t_now_sizes t_now_rooms t_now_told t_now_lines t_now_kinds t_now_acts m_mem m_acted m_past) : ∃ (r : Int32), fX7_ply t_now_rows t_now_sizes t_now_told t_now_acts v1 v2 = some r ∧ fX8_ply m_mem v1 v2 = some r := by
  rcases hN with hN | hN
  · obtain ⟨kn, a, l, rm, nb, rfl, rfl, rfl, rfl, h⟩ := hN.view
    by_cases c1 : 0 ≤ v1.toInt ∧ v1.toInt < l.length
    · obtain ⟨i, rfl, hi, -⟩ := int_nat c1.1
      have l8 := h.len
      have ki : i < 8 := by omega
      by_cases c2 : 0 ≤ v2.toInt ∧ v2.toInt ≤ 4
      · obtain ⟨j, rfl, hj, -⟩ := int_nat c2.1
        simp only [fX7_ply, h.cply, if_pos c1, e10, if_false, Option.bind_some, h.type ki, h.plies, fX8_ply, h.mply, mIn4, if_pos c2, chk19 ki, clamp19 ki, h.mt i (by omega), h.m2, fX3_farOf, fX3_thickOf]
        have hj5 : j = 0 ∨ j = 1 ∨ j = 2 ∨ j = 3 ∨ j = 4 := by omega
        rcases hj5 with rfl | rfl | rfl | rfl | rfl <;> exact ⟨_, rfl, rfl⟩
      · refine ⟨-2, ?_, by simp only [fX8_ply, h.mply, if_pos c1, e10, if_false, Option.bind_some, mIn4, if_neg c2, if_true]⟩
        simp only [fX7_ply, h.cply, if_pos c1, e10, if_false, Option.bind_some, h.type ki, h.plies]
        have z0 : ∀ k : Nat, k < 5 → ¬ v2 = nI k := by
          intro k hk q
          apply c2
          rw [q, nI_int (by omega)]
          omega
        rw [if_neg (show ¬ v2 = (0 : Int32) from z0 0 (by omega)), if_neg (show ¬ v2 = (1 : Int32) from z0 1 (by omega)), if_neg (show ¬ v2 = (2 : Int32) from z0 2 (by omega)), if_neg (show ¬ v2 = (3 : Int32) from z0 3 (by omega)), if_neg (show ¬ v2 = (4 : Int32) from z0 4 (by omega))]
    · exact ⟨-2, by simp only [fX7_ply, h.cply, if_neg c1, if_true, Option.bind_some], by simp only [fX8_ply, h.mply, if_neg c1, Option.bind_some, if_true]⟩
  · obtain ⟨rfl, h2, h3, h4, h5, h6, h7, h8, h9⟩ := id hN
    exact ⟨-2, by simp only [fX7_ply, fX7_isPly, if_true, Option.bind_some], by simp only [fX8_ply, mIsPly (show m_mem 2 = nI 0 from h9 2 (by omega)) (show 0 < 1000 by omega), if_neg (show ¬ (0 ≤ v1.toInt ∧ v1.toInt < ((0 : Nat) : Int)) by omega), Option.bind_some, if_true]⟩
set_option maxHeartbeats 1000000 in
set_option maxRecDepth 100000 in
theorem cs_stiff (t_now_cells : Nat → Int32) (t_now_rows : Nat → Int32) (t_now_sizes : Nat → Int32) (t_now_told : Int32) (t_now_acts : Int32) (m_mem : Nat → Int32) (m_row : Nat → Int32) (m_wide : Int32) (m_lost : Int32) (t_now_numbers : Nat → Int32) (t_now_rooms : Nat → Int32) (t_now_lines : Int32) (t_now_kinds : Int32) (m_acted : Int32) (m_past : Nat → Int32) (v1 : Int32) (v2 : Int32) (v3 : Int32) (hN : PN t_now_numbers t_now_cells t_now_rows t_now_sizes t_now_rooms t_now_told t_now_lines t_now_kinds t_now_acts m_mem m_acted m_past) : ∃ (r : Int64) (o_m_row : Nat → Int32) (o_m_wide : Int32) (o_m_lost : Int32), fX7_stiff t_now_cells t_now_rows t_now_sizes t_now_told t_now_acts v1 v2 v3 = some r ∧ fX8_stiff m_mem m_row m_wide m_lost v1 v2 v3 = some (r, o_m_row, o_m_wide, o_m_lost) := by
  rcases hN with hN | hN
  · obtain ⟨kn, a, l, rm, nb, rfl, rfl, rfl, rfl, h⟩ := hN.view
    by_cases c1 : 0 ≤ v1.toInt ∧ v1.toInt ≤ 2
    · by_cases c2 : 0 ≤ v2.toInt ∧ v2.toInt ≤ 2
      · by_cases c3 : 0 ≤ v3.toInt ∧ v3.toInt ≤ 2
        · obtain ⟨row', hl, hr⟩ := h.lays m_row m_wide m_lost
          obtain ⟨w, rfl, hw, -⟩ := int_nat c1.1
          obtain ⟨i, rfl, hi, -⟩ := int_nat c2.1
          obtain ⟨j, rfl, hj, -⟩ := int_nat c3.1
          have e : 3 * nI i + nI j = nI (3 * i + j) := by rw [lit_nI3, nI_mul, nI_add]
          have q1 := ax_lo c1
          have q2 := ax_hi c1
          exact ⟨_, row', nI l.length, 0, by simp only [fX7_stiff, e10, if_false, q1, q2, cAxis, if_pos c2, if_pos c3, e]; rw [lit_nI0, h.total (by omega) (by omega) (by omega), Option.bind_some], by simp only [fX8_stiff, h.is, Option.bind_some, mIn2, if_pos c1, if_pos c2, if_pos c3, e10, if_false, hl, ob3_some]; rw [lit_nI0, h.sum h.R h.lt hr (by omega) (by omega) (by omega) (by omega), Option.bind_some]⟩
        · have q1 := ax_lo c1
          have q2 := ax_hi c1
          exact ⟨_, m_row, m_wide, m_lost, by simp only [fX7_stiff, e10, if_false, q1, q2, cAxis, if_pos c2, if_neg c3, if_true]; rfl, by simp only [fX8_stiff, h.is, Option.bind_some, mIn2, if_pos c1, if_pos c2, if_neg c3, e10, if_false, if_true]⟩
      · have q1 := ax_lo c1
        have q2 := ax_hi c1
        exact ⟨_, m_row, m_wide, m_lost, by simp only [fX7_stiff, e10, if_false, q1, q2, cAxis, if_neg c2, if_true]; rfl, by simp only [fX8_stiff, h.is, Option.bind_some, mIn2, if_pos c1, if_neg c2, e10, if_false, if_true]⟩
    · refine ⟨-9223372036854775808, m_row, m_wide, m_lost, ?_, by simp only [fX8_stiff, h.is, Option.bind_some, mIn2, if_neg c1, e10, if_false, if_true]⟩
      simp only [fX7_stiff, e10, if_false]
      exact ax_out c1
  · obtain ⟨rfl, h2, h3, h4, h5, h6, h7, h8, h9⟩ := id hN
    exact ⟨-9223372036854775808, m_row, m_wide, m_lost, by simp only [fX7_stiff, if_true], by simp only [fX8_stiff, mIs0 (h9 3 (by omega)), Option.bind_some, if_true]⟩
set_option maxHeartbeats 1000000 in
set_option maxRecDepth 100000 in
theorem cs_even (t_now_cells : Nat → Int32) (t_now_rows : Nat → Int32) (t_now_sizes : Nat → Int32) (t_now_told : Int32) (t_now_kinds : Int32) (t_now_acts : Int32) (m_mem : Nat → Int32) (m_row : Nat → Int32) (m_wide : Int32) (m_lost : Int32) (t_now_numbers : Nat → Int32) (t_now_rooms : Nat → Int32) (t_now_lines : Int32) (m_acted : Int32) (m_past : Nat → Int32)  (hN : PN t_now_numbers t_now_cells t_now_rows t_now_sizes t_now_rooms t_now_told t_now_lines t_now_kinds t_now_acts m_mem m_acted m_past) : ∃ (r : Int32) (o_m_row : Nat → Int32) (o_m_wide : Int32) (o_m_lost : Int32), fX7_even t_now_cells t_now_rows t_now_sizes t_now_told t_now_kinds t_now_acts = some r ∧ fX8_even m_mem m_row m_wide m_lost = some (r, o_m_row, o_m_wide, o_m_lost) := by
  rcases hN with hN | hN
  · obtain ⟨kn, a, l, rm, nb, rfl, rfl, rfl, rfl, h⟩ := hN.view
    obtain ⟨row', hl, hr⟩ := h.lays m_row m_wide m_lost
    have l8 := h.len
    have hb : fX1_isBalanced t_now_rows t_now_sizes (nI kn) (nI a) = some (b32 (balL l 3 0)) := by
      have q := h.balC_loop kn FU 0 (by omega) (FU_gt (by have := h.kn3; omega))
      rw [bal_kn h.kn3 h.lt] at q
      exact q
    have hw := h.warpM h.R h.lt hr (g := 0) (by omega)
    have ht := h.twistM h.R h.lt hr (g := 0) (by omega)
    have hw0 := h.wz0 h.R h.lt
    have ht0 := h.tz0 h.R h.lt
    simp only [fX7_even, e10, if_false, h.row, h.plies, Option.bind_some, h.shape h.R h.lt, hb, fX8_even, h.is, hl, ob3_some, mMir h.R hr, fX8_even_26, fX8_even_40, fX8_even_55, show fX8_warpHere m_mem row' (nI l.length) 0 = _ from hw, show fX8_twistHere m_mem row' (nI l.length) 0 = _ from ht, mBal h.R hr, hw0, ht0, shp]
    cases isMir l <;> cases isFla (ceQ nb) l <;> cases isStr (ceQ nb) l <;> cases balL l 3 0 <;> exact ⟨_, row', nI l.length, 0, rfl, rfl⟩
  · obtain ⟨rfl, h2, h3, h4, h5, h6, h7, h8, h9⟩ := id hN
    exact ⟨-2, m_row, m_wide, m_lost, by simp only [fX7_even, if_true], by simp only [fX8_even, mIs0 (h9 3 (by omega)), Option.bind_some, if_true]⟩
set_option maxHeartbeats 1000000 in
set_option maxRecDepth 100000 in
theorem cs_warp (t_now_cells : Nat → Int32) (t_now_rows : Nat → Int32) (t_now_sizes : Nat → Int32) (t_now_told : Int32) (t_now_acts : Int32) (m_mem : Nat → Int32) (m_row : Nat → Int32) (m_wide : Int32) (m_lost : Int32) (t_now_numbers : Nat → Int32) (t_now_rooms : Nat → Int32) (t_now_lines : Int32) (t_now_kinds : Int32) (m_acted : Int32) (m_past : Nat → Int32)  (hN : PN t_now_numbers t_now_cells t_now_rows t_now_sizes t_now_rooms t_now_told t_now_lines t_now_kinds t_now_acts m_mem m_acted m_past) : ∃ (r : Int64) (o_m_row : Nat → Int32) (o_m_wide : Int32) (o_m_lost : Int32), fX7_warp t_now_cells t_now_rows t_now_sizes t_now_told t_now_acts = some r ∧ fX8_warp m_mem m_row m_wide m_lost = some (r, o_m_row, o_m_wide, o_m_lost) := by
  rcases hN with hN | hN
  · obtain ⟨kn, a, l, rm, nb, rfl, rfl, rfl, rfl, h⟩ := hN.view
    obtain ⟨row', hl, hr⟩ := h.lays m_row m_wide m_lost
    exact ⟨_, row', nI l.length, 0, by simp only [fX7_warp, e10, if_false]; rw [lit_nI0, h.warpC (by omega), Option.bind_some], by simp only [fX8_warp, hl, ob3_some, h.is, Option.bind_some, e10, if_false]; rw [lit_nI0, h.warpM h.R h.lt hr (by omega), Option.bind_some]⟩
  · obtain ⟨rfl, h2, h3, h4, h5, h6, h7, h8, h9⟩ := id hN
    obtain ⟨row', hl, hr⟩ := mLays (mem := m_mem) (l := []) (by decide) (h9 2 (by omega)) (fun p hp => absurd hp (Nat.not_lt_zero p)) m_row m_wide m_lost
    exact ⟨-2, row', nI 0, 0, by simp only [fX7_warp, if_true], by simp only [fX8_warp, hl, ob3_some, mIs0 (h9 3 (by omega)), Option.bind_some, if_true]; rfl⟩
set_option maxHeartbeats 1000000 in
set_option maxRecDepth 100000 in
theorem cs_twist (t_now_cells : Nat → Int32) (t_now_rows : Nat → Int32) (t_now_sizes : Nat → Int32) (t_now_told : Int32) (t_now_acts : Int32) (m_mem : Nat → Int32) (m_row : Nat → Int32) (m_wide : Int32) (m_lost : Int32) (t_now_numbers : Nat → Int32) (t_now_rooms : Nat → Int32) (t_now_lines : Int32) (t_now_kinds : Int32) (m_acted : Int32) (m_past : Nat → Int32)  (hN : PN t_now_numbers t_now_cells t_now_rows t_now_sizes t_now_rooms t_now_told t_now_lines t_now_kinds t_now_acts m_mem m_acted m_past) : ∃ (r : Int64) (o_m_row : Nat → Int32) (o_m_wide : Int32) (o_m_lost : Int32), fX7_twist t_now_cells t_now_rows t_now_sizes t_now_told t_now_acts = some r ∧ fX8_twist m_mem m_row m_wide m_lost = some (r, o_m_row, o_m_wide, o_m_lost) := by
  rcases hN with hN | hN
  · obtain ⟨kn, a, l, rm, nb, rfl, rfl, rfl, rfl, h⟩ := hN.view
    obtain ⟨row', hl, hr⟩ := h.lays m_row m_wide m_lost
    exact ⟨_, row', nI l.length, 0, by simp only [fX7_twist, e10, if_false]; rw [h.twistC, Option.bind_some], by simp only [fX8_twist, hl, ob3_some, h.is, Option.bind_some, e10, if_false]; rw [lit_nI0, h.twistM h.R h.lt hr (by omega), Option.bind_some]⟩
  · obtain ⟨rfl, h2, h3, h4, h5, h6, h7, h8, h9⟩ := id hN
    obtain ⟨row', hl, hr⟩ := mLays (mem := m_mem) (l := []) (by decide) (h9 2 (by omega)) (fun p hp => absurd hp (Nat.not_lt_zero p)) m_row m_wide m_lost
    exact ⟨-2, row', nI 0, 0, by simp only [fX7_twist, if_true], by simp only [fX8_twist, hl, ob3_some, mIs0 (h9 3 (by omega)), Option.bind_some, if_true]; rfl⟩
set_option maxHeartbeats 1000000 in
set_option maxRecDepth 100000 in
theorem cs_likes (t_now_rows : Nat → Int32) (t_now_sizes : Nat → Int32) (t_now_told : Int32) (t_now_acts : Int32) (m_mem : Nat → Int32) (m_row : Nat → Int32) (m_wide : Int32) (m_lost : Int32) (t_now_numbers : Nat → Int32) (t_now_cells : Nat → Int32) (t_now_rooms : Nat → Int32) (t_now_lines : Int32) (t_now_kinds : Int32) (m_acted : Int32) (m_past : Nat → Int32)  (hN : PN t_now_numbers t_now_cells t_now_rows t_now_sizes t_now_rooms t_now_told t_now_lines t_now_kinds t_now_acts m_mem m_acted m_past) : ∃ (r : Int32) (o_m_row : Nat → Int32) (o_m_wide : Int32) (o_m_lost : Int32), fX7_likes t_now_rows t_now_sizes t_now_told t_now_acts = some r ∧ fX8_likes m_mem m_row m_wide m_lost = some (r, o_m_row, o_m_wide, o_m_lost) := by
  rcases hN with hN | hN
  · obtain ⟨kn, a, l, rm, nb, rfl, rfl, rfl, rfl, h⟩ := hN.view
    obtain ⟨row', hl, hr⟩ := h.lays m_row m_wide m_lost
    exact ⟨nI (likesN l), row', nI l.length, 0, by simp only [fX7_likes, e10, if_false, h.row, h.plies, Option.bind_some, likes_pk h.R], by simp only [fX8_likes, hl, ob3_some, h.is, Option.bind_some, e10, if_false, mLikes h.R hr]⟩
  · obtain ⟨rfl, h2, h3, h4, h5, h6, h7, h8, h9⟩ := id hN
    obtain ⟨row', hl, hr⟩ := mLays (mem := m_mem) (l := []) (by decide) (h9 2 (by omega)) (fun p hp => absurd hp (Nat.not_lt_zero p)) m_row m_wide m_lost
    exact ⟨-2, row', nI 0, 0, by simp only [fX7_likes, if_true], by simp only [fX8_likes, hl, ob3_some, mIs0 (h9 3 (by omega)), Option.bind_some, if_true]; rfl⟩
set_option maxHeartbeats 1000000 in
set_option maxRecDepth 100000 in
theorem cs_lost (t_now_cells : Nat → Int32) (t_now_rows : Nat → Int32) (t_now_sizes : Nat → Int32) (t_now_told : Int32) (t_now_acts : Int32) (m_mem : Nat → Int32) (m_row : Nat → Int32) (m_wide : Int32) (m_lost : Int32) (t_now_numbers : Nat → Int32) (t_now_rooms : Nat → Int32) (t_now_lines : Int32) (t_now_kinds : Int32) (m_acted : Int32) (m_past : Nat → Int32) (v1 : Int32) (v2 : Int32) (hN : PN t_now_numbers t_now_cells t_now_rows t_now_sizes t_now_rooms t_now_told t_now_lines t_now_kinds t_now_acts m_mem m_acted m_past) : ∃ (r : Int64) (o_m_row : Nat → Int32) (o_m_wide : Int32) (o_m_lost : Int32), fX7_lost t_now_cells t_now_rows t_now_sizes t_now_told t_now_acts v1 v2 = some r ∧ fX8_lost m_mem m_row m_wide m_lost v1 v2 = some (r, o_m_row, o_m_wide, o_m_lost) := by
  rcases hN with hN | hN
  · obtain ⟨kn, a, l, rm, nb, rfl, rfl, rfl, rfl, h⟩ := hN.view
    by_cases c1 : 0 ≤ v1.toInt ∧ v1.toInt < l.length
    · obtain ⟨i, rfl, hi, -⟩ := int_nat c1.1
      have l8 := h.len
      by_cases c2 : 0 ≤ v2.toInt ∧ v2.toInt ≤ 2
      · obtain ⟨j, rfl, hj, -⟩ := int_nat c2.1
        obtain ⟨row', hl, hr⟩ := h.lays m_row m_wide m_lost
        have q2 : (nI j ≤ 2) = True := eq_true ((le2_iff _).mpr c2.2)
        exact ⟨LV nb l j i, row', nI l.length, _, by simp only [fX7_lost, h.cply, if_pos c1, e10, if_false, Option.bind_some, nn0 c2.1, q2, if_true, h.left (show i < 8 by omega) (show j < 3 by omega)], by simp only [fX8_lost, h.mply, if_pos c1, e10, if_false, Option.bind_some, mIn2, if_pos c2, hl, ob3_some, h.lostBy hr (show i < 8 by omega) (show j < 3 by omega), ob2_some]; rfl⟩
      · refine ⟨-9223372036854775808, m_row, m_wide, m_lost, ?_, by simp only [fX8_lost, h.mply, if_pos c1, e10, if_false, Option.bind_some, mIn2, if_neg c2, if_true]⟩
        simp only [fX7_lost, h.cply, if_pos c1, e10, if_false, Option.bind_some]
        exact out_lo le2_iff c2
    · exact ⟨-9223372036854775808, m_row, m_wide, m_lost, by simp only [fX7_lost, h.cply, if_neg c1, if_true, Option.bind_some], by simp only [fX8_lost, h.mply, if_neg c1, Option.bind_some, if_true]⟩
  · obtain ⟨rfl, h2, h3, h4, h5, h6, h7, h8, h9⟩ := id hN
    exact ⟨-9223372036854775808, m_row, m_wide, m_lost, by simp only [fX7_lost, fX7_isPly, if_true, Option.bind_some], by simp only [fX8_lost, mIsPly (show m_mem 2 = nI 0 from h9 2 (by omega)) (show 0 < 1000 by omega), if_neg (show ¬ (0 ≤ v1.toInt ∧ v1.toInt < ((0 : Nat) : Int)) by omega), Option.bind_some, if_true]⟩
set_option maxHeartbeats 1000000 in
set_option maxRecDepth 100000 in
theorem cs_worst (t_now_cells : Nat → Int32) (t_now_rows : Nat → Int32) (t_now_sizes : Nat → Int32) (t_now_told : Int32) (t_now_acts : Int32) (m_mem : Nat → Int32) (m_row : Nat → Int32) (m_wide : Int32) (m_lost : Int32) (t_now_numbers : Nat → Int32) (t_now_rooms : Nat → Int32) (t_now_lines : Int32) (t_now_kinds : Int32) (m_acted : Int32) (m_past : Nat → Int32) (v1 : Int32) (hN : PN t_now_numbers t_now_cells t_now_rows t_now_sizes t_now_rooms t_now_told t_now_lines t_now_kinds t_now_acts m_mem m_acted m_past) : ∃ (r : Int32) (o_m_row : Nat → Int32) (o_m_wide : Int32) (o_m_lost : Int32), fX7_worst t_now_cells t_now_rows t_now_sizes t_now_told t_now_acts v1 = some r ∧ fX8_worst m_mem m_row m_wide m_lost v1 = some (r, o_m_row, o_m_wide, o_m_lost) := by
  rcases hN with hN | hN
  · obtain ⟨kn, a, l, rm, nb, rfl, rfl, rfl, rfl, h⟩ := hN.view
    have l8 := h.len
    by_cases c2 : 0 ≤ v1.toInt ∧ v1.toInt ≤ 2
    · obtain ⟨w, rfl, hw, -⟩ := int_nat c2.1
      obtain ⟨row', hl, hr⟩ := h.lays m_row m_wide m_lost
      have q2 : (nI w ≤ 2) = True := eq_true ((le2_iff _).mpr c2.2)
      have hw3 : w < 3 := by omega
      obtain ⟨n, hn⟩ := FU_10
      have key : ∃ (r : Int32) (lost' : Int32), fX7_worst_29 FU t_now_cells t_now_rows t_now_sizes (nI a) (nI w) (-1) 0 (nI 0) = some r ∧ fX8_worst_30 FU m_mem row' (nI l.length) 0 (nI w) (-1) (nI 0) = some (r, row', nI l.length, lost') := by
        rw [show fX7_worst_29 FU = fX7_worst_29 (n + 9 + 1) by rw [hn], show fX8_worst_30 FU = fX8_worst_30 (n + 9 + 1) by rw [hn]]
        by_cases c : l.length = 0
        · have q := (nI_le' (a := l.length) (b := 0) (by omega) (by omega)).mpr (by omega)
          exact ⟨-1, 0, by rw [fX7_worst_29, h.plies, Option.bind_some, if_pos q], by rw [fX8_worst_30, if_pos q]⟩
        · have q : ¬ nI l.length ≤ nI 0 := fun q => by have := (nI_le' (by omega) (by omega)).mp q; omega
          obtain ⟨r, lo, h1, h2⟩ := h.worst hr hw3 (l.length - 1) (n + 9) (n + 9) 1 0 0 (by omega) (by omega) (by omega) (by omega)
          refine ⟨r, lo, ?_, ?_⟩
          · rw [fX7_worst_29, h.plies, Option.bind_some, if_neg q, h.left (by omega) hw3, Option.bind_some]
            simp only [fX7_worst_63, fX7_worst_77, fX7_worst_83, if_true, nI_s]
            rw [← h1, KVw]
            by_cases c : w = 2
            · rw [if_pos c, if_pos (show nI w = 2 by rw [c]; rfl)]
            · rw [if_neg c, if_neg (show ¬ nI w = 2 from nI_ne (b := 2) c (by omega) (by omega))]
          · rw [fX8_worst_30, if_neg q, if_pos rfl]
            simp only [fX8_worst_83, fX8_worst_85, nI_s]
            exact h2
      obtain ⟨r, lo, h1, h2⟩ := key
      exact ⟨r, row', nI l.length, lo, by simp only [fX7_worst, e10, if_false, nn0 c2.1, q2, if_true]; exact h1, by simp only [fX8_worst, h.is, e10, if_false, Option.bind_some, mIn2, if_pos c2, hl, ob3_some]; exact h2⟩
    · refine ⟨-2, m_row, m_wide, m_lost, ?_, by simp only [fX8_worst, h.is, e10, if_false, Option.bind_some, mIn2, if_neg c2, if_true]⟩
      simp only [fX7_worst, e10, if_false]
      exact out_lo le2_iff c2
  · obtain ⟨rfl, h2, h3, h4, h5, h6, h7, h8, h9⟩ := id hN
    exact ⟨-2, m_row, m_wide, m_lost, by simp only [fX7_worst, if_true], by simp only [fX8_worst, mIs0 (h9 3 (by omega)), Option.bind_some, if_true]⟩
set_option maxHeartbeats 1000000 in
set_option maxRecDepth 100000 in
theorem cs_many (t_now_rows : Nat → Int32) (t_now_sizes : Nat → Int32) (t_now_told : Int32) (t_now_kinds : Int32) (t_now_acts : Int32) (m_mem : Nat → Int32) (t_now_numbers : Nat → Int32) (t_now_cells : Nat → Int32) (t_now_rooms : Nat → Int32) (t_now_lines : Int32) (m_acted : Int32) (m_past : Nat → Int32) (v1 : Int32) (v2 : Int32) (hN : PN t_now_numbers t_now_cells t_now_rows t_now_sizes t_now_rooms t_now_told t_now_lines t_now_kinds t_now_acts m_mem m_acted m_past) : ∃ (r : Int32), fX7_many t_now_rows t_now_sizes t_now_told t_now_kinds t_now_acts v1 v2 = some r ∧ fX8_many m_mem v1 v2 = some r := by
  rcases hN with hN | hN
  · obtain ⟨kn, a, l, rm, nb, rfl, rfl, rfl, rfl, h⟩ := hN.view
    by_cases c1 : 0 ≤ v1.toInt ∧ v1.toInt < kn
    · by_cases c2 : 0 ≤ v2.toInt ∧ v2.toInt < 4
      · obtain ⟨i, rfl, hi, -⟩ := int_nat c1.1
        obtain ⟨j, rfl, hj, -⟩ := int_nat c2.1
        have k3 := h.kn3
        exact ⟨nI (l.count (4 * i + j)), by simp only [fX7_many, h.ckind, if_pos c1, cIsAngle, if_pos c2, e10, if_false, h.row, h.plies, Option.bind_some]; rw [lit_nI4, nI_mul, nI_add, show i * 4 + j = 4 * i + j by omega, howMany_pk h.R (by omega), Option.bind_some], by simp only [fX8_many, h.mkind, if_pos c1, mIn3, if_pos c2, Option.bind_some, e10, if_false]; exact (many_loop h.R h.m2 h.mt (t := 4 * i + j) (by omega) (by rw [lit_nI4, nI_mul, nI_add]) l.length FU 0 0 (by omega) (FU_gt (by have := h.len; omega))).trans (by rw [Nat.zero_add]; rfl)⟩
      · exact ⟨-2, by simp only [fX7_many, h.ckind, if_pos c1, cIsAngle, if_neg c2, e10, if_false, if_true], by simp only [fX8_many, h.mkind, if_pos c1, mIn3, if_neg c2, Option.bind_some, e10, if_false, if_true]⟩
    · exact ⟨-2, by simp only [fX7_many, h.ckind, if_neg c1, if_true], by simp only [fX8_many, h.mkind, if_neg c1, Option.bind_some, if_true]⟩
  · obtain ⟨rfl, h2, h3, h4, h5, h6, h7, h8, h9⟩ := id hN
    exact ⟨-2, by simp only [fX7_many, fX7_isKind, if_true], by simp only [fX8_many, mIsKind (show m_mem 1 = nI 0 from h9 1 (by omega)) (show 0 < 1000 by omega), if_neg (show ¬ (0 ≤ v1.toInt ∧ v1.toInt < ((0 : Nat) : Int)) by omega), Option.bind_some, if_true]⟩
set_option maxHeartbeats 1000000 in
set_option maxRecDepth 100000 in
theorem cs_swap (t_now_rows : Nat → Int32) (t_now_sizes : Nat → Int32) (t_now_rooms : Nat → Int32) (t_now_told : Int32) (t_now_acts : Int32) (m_mem : Nat → Int32) (m_acted : Int32) (m_past : Nat → Int32) (t_now_numbers : Nat → Int32) (t_now_cells : Nat → Int32) (t_now_lines : Int32) (t_now_kinds : Int32) (v1 : Int32) (v2 : Int32) (hN : PN t_now_numbers t_now_cells t_now_rows t_now_sizes t_now_rooms t_now_told t_now_lines t_now_kinds t_now_acts m_mem m_acted m_past) : ∃ (r : Int32) (o_t_now_rows : Nat → Int32) (o_t_now_sizes : Nat → Int32) (o_t_now_rooms : Nat → Int32) (o_t_now_acts : Int32) (o_m_mem : Nat → Int32) (o_m_acted : Int32) (o_m_past : Nat → Int32), fX7_swap t_now_rows t_now_sizes t_now_rooms t_now_told t_now_acts v1 v2 = some (r, o_t_now_rows, o_t_now_sizes, o_t_now_rooms, o_t_now_acts) ∧ fX8_swap m_mem m_acted m_past v1 v2 = some (r, o_m_mem, o_m_acted, o_m_past) ∧ PN t_now_numbers t_now_cells o_t_now_rows o_t_now_sizes o_t_now_rooms t_now_told t_now_lines t_now_kinds o_t_now_acts o_m_mem o_m_acted o_m_past := by
  rcases hN with hN | hN
  · obtain ⟨kn, a, ln, rfl, rfl, rfl, rfl, ha, hlines, hln1, hln2, hPl, hpast, hs⟩ := id hN
    obtain ⟨l, rm, hl8, hlt, hrm1, hrm8, hrow, hsize, hroom, m0, m1, m2, m3, mk, mt⟩ := id hs
    have hk3 := hPl.1
    have hn : l.length < 1000 := by omega
    have hR : R16 l := ⟨fun t ht => by have := hlt t ht; omega, hl8⟩
    by_cases c1 : 0 ≤ v1.toInt ∧ v1.toInt < l.length
    · by_cases c2 : 0 ≤ v2.toInt ∧ v2.toInt < l.length
      · obtain ⟨i, rfl, hi, -⟩ := int_nat c1.1
        obtain ⟨j, rfl, hj, -⟩ := int_nat c2.1
        have hi8 : i < l.length := by omega
        have hj8 : j < l.length := by omega
        have ki : i < 8 := by omega
        have kj : j < 8 := by omega
        have gi := getD_lt12 hR i
        have gj := getD_lt12 hR j
        by_cases e : l.getD i 0 = l.getD j 0
        · have e' : nI (l.getD i 0) = nI (l.getD j 0) := by rw [e]
          exact ⟨-5, t_now_rows, t_now_sizes, t_now_rooms, nI a, m_mem, nI a, m_past, by simp only [fX7_swap, cIsPly ha hsize hn, if_pos c1, if_pos c2, Option.bind_some, e10, if_false, cTypeAt ha hR hrow ki, cTypeAt ha hR hrow kj, if_pos e'], by simp only [fX8_swap, mIsPly m2 hn, if_pos c1, if_pos c2, Option.bind_some, e10, if_false, chk19 ki, chk19 kj, clamp19 ki, mt i hi8, clamp19 kj, mt j hj8, if_pos e'], Or.inl hN⟩
        · have e' := nI_ne e (by omega) (by omega)
          by_cases f : a < 30
          · refine ⟨0, _, _, _, _, _, _, _, by simp only [fX7_swap, cIsPly ha hsize hn, if_pos c1, if_pos c2, Option.bind_some, e10, if_false, cTypeAt ha hR hrow ki, cTypeAt ha hR hrow kj, if_neg e', cFull ha, if_pos f, if_true, cRow ha, cPlies ha, cRoom ha, hrow, with_pk hR gj hi8, with_pk (hR.set gj) gi (show j < (l.set i (l.getD j 0)).length by rw [List.length_set]; omega), cAct f, ob4_some]; rfl, by simp only [fX8_swap, mIsPly m2 hn, if_pos c1, if_pos c2, Option.bind_some, e10, if_false, chk19 ki, chk19 kj, clamp19 ki, mt i hi8, clamp19 kj, mt j hj8, if_neg e', mFull ha, if_pos f, if_true, mKeeps f, ob2_some]; rfl, Or.inl ?_⟩
            have hlen : ((l.set i (l.getD j 0)).set j (l.getD i 0)).length = l.length := by rw [List.length_set, List.length_set]
            rw [hsize, hroom]
            refine PNt.act f hlines hln1 hln2 hPl hpast hs ?_
            rw [← hlen]
            refine Snap.types hk3 hrm1 hrm8 m0 m1 m3 mk (by omega) ?_ ?_ ?_ ?_
            · intro t ht
              rcases mem_set ht with q | q
              · rcases mem_set q with q | q
                · exact hlt t q
                · rw [q]; exact hlt _ (getD_mem hj8)
              · rw [q]; exact hlt _ (getD_mem hi8)
            · intro k h1 h2
              rw [upd_ne _ _ (by omega), upd_ne _ _ (by omega)]
            · rw [upd_ne _ _ (by omega), upd_ne _ _ (by omega), hlen]
              exact m2
            · intro p hp
              rw [hlen] at hp
              rw [getD_set (by rw [List.length_set]; omega), getD_set hi8]
              by_cases e1 : p = j
              · rw [if_pos e1, e1, upd_same]
              · rw [if_neg e1, upd_ne _ _ (by omega)]
                by_cases e2 : p = i
                · rw [if_pos e2, e2, upd_same]
                · rw [if_neg e2, upd_ne _ _ (by omega)]
                  exact mt p hp
          · exact ⟨-5, t_now_rows, t_now_sizes, t_now_rooms, nI a, m_mem, nI a, m_past, by simp only [fX7_swap, cIsPly ha hsize hn, if_pos c1, if_pos c2, Option.bind_some, e10, if_false, cTypeAt ha hR hrow ki, cTypeAt ha hR hrow kj, if_neg e', cFull ha, if_neg f], by simp only [fX8_swap, mIsPly m2 hn, if_pos c1, if_pos c2, Option.bind_some, e10, if_false, chk19 ki, chk19 kj, clamp19 ki, mt i hi8, clamp19 kj, mt j hj8, if_neg e', mFull ha, if_neg f], Or.inl hN⟩
      · exact ⟨-2, t_now_rows, t_now_sizes, t_now_rooms, nI a, m_mem, nI a, m_past, by simp only [fX7_swap, cIsPly ha hsize hn, if_pos c1, if_neg c2, Option.bind_some, e10, if_false, if_true], by simp only [fX8_swap, mIsPly m2 hn, if_pos c1, if_neg c2, Option.bind_some, e10, if_false, if_true], Or.inl hN⟩
    · exact ⟨-2, t_now_rows, t_now_sizes, t_now_rooms, nI a, m_mem, nI a, m_past, by simp only [fX7_swap, cIsPly ha hsize hn, if_neg c1, Option.bind_some, if_true], by simp only [fX8_swap, mIsPly m2 hn, if_neg c1, Option.bind_some, if_true], Or.inl hN⟩
  · obtain ⟨rfl, h2, h3, h4, h5, h6, h7, h8, h9⟩ := id hN
    have m2 : m_mem 2 = nI 0 := h9 2 (by omega)
    have c1 : ¬ (0 ≤ v1.toInt ∧ v1.toInt < ((0 : Nat) : Int)) := by omega
    exact ⟨-2, t_now_rows, t_now_sizes, t_now_rooms, t_now_acts, m_mem, m_acted, m_past, by simp only [fX7_swap, fX7_isPly, Option.bind_some, if_true], by simp only [fX8_swap, mIsPly m2 (show 0 < 1000 by omega), if_neg c1, Option.bind_some, if_true], Or.inr hN⟩
set_option maxHeartbeats 1000000 in
set_option maxRecDepth 100000 in
theorem cs_turn (t_now_rows : Nat → Int32) (t_now_sizes : Nat → Int32) (t_now_rooms : Nat → Int32) (t_now_told : Int32) (t_now_acts : Int32) (m_mem : Nat → Int32) (m_acted : Int32) (m_past : Nat → Int32) (t_now_numbers : Nat → Int32) (t_now_cells : Nat → Int32) (t_now_lines : Int32) (t_now_kinds : Int32) (v1 : Int32) (v2 : Int32) (hN : PN t_now_numbers t_now_cells t_now_rows t_now_sizes t_now_rooms t_now_told t_now_lines t_now_kinds t_now_acts m_mem m_acted m_past) : ∃ (r : Int32) (o_t_now_rows : Nat → Int32) (o_t_now_sizes : Nat → Int32) (o_t_now_rooms : Nat → Int32) (o_t_now_acts : Int32) (o_m_mem : Nat → Int32) (o_m_acted : Int32) (o_m_past : Nat → Int32), fX7_turn t_now_rows t_now_sizes t_now_rooms t_now_told t_now_acts v1 v2 = some (r, o_t_now_rows, o_t_now_sizes, o_t_now_rooms, o_t_now_acts) ∧ fX8_turn m_mem m_acted m_past v1 v2 = some (r, o_m_mem, o_m_acted, o_m_past) ∧ PN t_now_numbers t_now_cells o_t_now_rows o_t_now_sizes o_t_now_rooms t_now_told t_now_lines t_now_kinds o_t_now_acts o_m_mem o_m_acted o_m_past := by
  rcases hN with hN | hN
  · obtain ⟨kn, a, ln, rfl, rfl, rfl, rfl, ha, hlines, hln1, hln2, hPl, hpast, hs⟩ := id hN
    obtain ⟨l, rm, hl8, hlt, hrm1, hrm8, hrow, hsize, hroom, m0, m1, m2, m3, mk, mt⟩ := id hs
    have hk3 := hPl.1
    have hn : l.length < 1000 := by omega
    have hR : R16 l := ⟨fun t ht => by have := hlt t ht; omega, hl8⟩
    by_cases c1 : 0 ≤ v1.toInt ∧ v1.toInt < l.length
    · by_cases c2 : 0 ≤ v2.toInt ∧ v2.toInt < 4
      · obtain ⟨i, rfl, hi, -⟩ := int_nat c1.1
        obtain ⟨j, rfl, hj, -⟩ := int_nat c2.1
        have hi8 : i < l.length := by omega
        have ki : i < 8 := by omega
        have gi := getD_lt12 hR i
        have gk := hlt _ (getD_mem hi8)
        have er : irem (nI (l.getD i 0)) 4 = nI (l.getD i 0 % 4) := irem_nI (b := 4) (by omega) (by omega) (by omega)
        by_cases e : l.getD i 0 % 4 = j
        · have e' : nI (l.getD i 0 % 4) = nI j := by rw [e]
          exact ⟨-5, t_now_rows, t_now_sizes, t_now_rooms, nI a, m_mem, nI a, m_past, by simp only [fX7_turn, cIsPly ha hsize hn, if_pos c1, cIsAngle, if_pos c2, Option.bind_some, e10, if_false, cTypeAt ha hR hrow ki, er, if_pos e'], by simp only [fX8_turn, mIsPly m2 hn, if_pos c1, mIn3, if_pos c2, Option.bind_some, e10, if_false, chk19 ki, clamp19 ki, mt i hi8, er, if_pos e'], Or.inl hN⟩
        · have e' := nI_ne e (by omega) (by omega)
          by_cases f : a < 30
          · have ev : nI (l.getD i 0) + (nI j - nI (l.getD i 0 % 4)) = nI (l.getD i 0 - l.getD i 0 % 4 + j) := by
              rw [nI_i32, nI_i32, nI_i32, nI_i32, ← i32_sub, ← i32_add]
              congr 1
              omega
            have ew : (nI (l.getD i 0) - nI (l.getD i 0 % 4)) + nI j = nI (l.getD i 0 - l.getD i 0 % 4 + j) := by rw [nI_sub (Nat.mod_le _ _), nI_add]
            refine ⟨nI (l.getD i 0 % 4), _, _, _, _, _, _, _, by simp only [fX7_turn, cIsPly ha hsize hn, if_pos c1, cIsAngle, if_pos c2, Option.bind_some, e10, if_false, cTypeAt ha hR hrow ki, er, if_neg e', cFull ha, if_pos f, if_true, cRow ha, cPlies ha, cRoom ha, hrow, ew, with_pk hR (show l.getD i 0 - l.getD i 0 % 4 + j < 12 by omega) hi8, cAct f, ob4_some]; rfl, by simp only [fX8_turn, mIsPly m2 hn, if_pos c1, mIn3, if_pos c2, Option.bind_some, e10, if_false, chk19 ki, clamp19 ki, mt i hi8, er, if_neg e', mFull ha, if_pos f, if_true, mKeeps f, ob2_some, ev]; rfl, Or.inl ?_⟩
            have hlen : (l.set i (l.getD i 0 - l.getD i 0 % 4 + j)).length = l.length := List.length_set
            rw [hsize, hroom]
            refine PNt.act f hlines hln1 hln2 hPl hpast hs ?_
            rw [← hlen]
            refine Snap.types hk3 hrm1 hrm8 m0 m1 m3 mk (by omega) ?_ ?_ ?_ ?_
            · intro t ht
              rcases mem_set ht with q | q
              · exact hlt t q
              · omega
            · intro k h1 h2
              rw [upd_ne _ _ (by omega)]
            · rw [upd_ne _ _ (by omega), hlen]
              exact m2
            · intro p hp
              rw [hlen] at hp
              rw [getD_set hi8]
              by_cases e1 : p = i
              · rw [if_pos e1, e1, upd_same]
              · rw [if_neg e1, upd_ne _ _ (by omega)]
                exact mt p hp
          · exact ⟨-5, t_now_rows, t_now_sizes, t_now_rooms, nI a, m_mem, nI a, m_past, by simp only [fX7_turn, cIsPly ha hsize hn, if_pos c1, cIsAngle, if_pos c2, Option.bind_some, e10, if_false, cTypeAt ha hR hrow ki, er, if_neg e', cFull ha, if_neg f], by simp only [fX8_turn, mIsPly m2 hn, if_pos c1, mIn3, if_pos c2, Option.bind_some, e10, if_false, chk19 ki, clamp19 ki, mt i hi8, er, if_neg e', mFull ha, if_neg f], Or.inl hN⟩
      · exact ⟨-2, t_now_rows, t_now_sizes, t_now_rooms, nI a, m_mem, nI a, m_past, by simp only [fX7_turn, cIsPly ha hsize hn, if_pos c1, cIsAngle, if_neg c2, Option.bind_some, e10, if_false, if_true], by simp only [fX8_turn, mIsPly m2 hn, if_pos c1, mIn3, if_neg c2, Option.bind_some, e10, if_false, if_true], Or.inl hN⟩
    · exact ⟨-2, t_now_rows, t_now_sizes, t_now_rooms, nI a, m_mem, nI a, m_past, by simp only [fX7_turn, cIsPly ha hsize hn, if_neg c1, Option.bind_some, if_true], by simp only [fX8_turn, mIsPly m2 hn, if_neg c1, Option.bind_some, if_true], Or.inl hN⟩
  · obtain ⟨rfl, h2, h3, h4, h5, h6, h7, h8, h9⟩ := id hN
    have m2 : m_mem 2 = nI 0 := h9 2 (by omega)
    have c1 : ¬ (0 ≤ v1.toInt ∧ v1.toInt < ((0 : Nat) : Int)) := by omega
    exact ⟨-2, t_now_rows, t_now_sizes, t_now_rooms, t_now_acts, m_mem, m_acted, m_past, by simp only [fX7_turn, fX7_isPly, Option.bind_some, if_true], by simp only [fX8_turn, mIsPly m2 (show 0 < 1000 by omega), if_neg c1, Option.bind_some, if_true], Or.inr hN⟩
set_option maxHeartbeats 1000000 in
set_option maxRecDepth 100000 in
theorem cs_room (t_now_rows : Nat → Int32) (t_now_sizes : Nat → Int32) (t_now_rooms : Nat → Int32) (t_now_told : Int32) (t_now_acts : Int32) (m_mem : Nat → Int32) (m_acted : Int32) (m_past : Nat → Int32) (t_now_numbers : Nat → Int32) (t_now_cells : Nat → Int32) (t_now_lines : Int32) (t_now_kinds : Int32) (v1 : Int32) (hN : PN t_now_numbers t_now_cells t_now_rows t_now_sizes t_now_rooms t_now_told t_now_lines t_now_kinds t_now_acts m_mem m_acted m_past) : ∃ (r : Int32) (o_t_now_rows : Nat → Int32) (o_t_now_sizes : Nat → Int32) (o_t_now_rooms : Nat → Int32) (o_t_now_acts : Int32) (o_m_mem : Nat → Int32) (o_m_acted : Int32) (o_m_past : Nat → Int32), fX7_room t_now_rows t_now_sizes t_now_rooms t_now_told t_now_acts v1 = some (r, o_t_now_rows, o_t_now_sizes, o_t_now_rooms, o_t_now_acts) ∧ fX8_room m_mem m_acted m_past v1 = some (r, o_m_mem, o_m_acted, o_m_past) ∧ PN t_now_numbers t_now_cells o_t_now_rows o_t_now_sizes o_t_now_rooms t_now_told t_now_lines t_now_kinds o_t_now_acts o_m_mem o_m_acted o_m_past := by
  rcases hN with hN | hN
  · obtain ⟨kn, a, ln, rfl, rfl, rfl, rfl, ha, hlines, hln1, hln2, hPl, hpast, hs⟩ := id hN
    obtain ⟨l, rm, hl8, hlt, hrm1, hrm8, hrow, hsize, hroom, m0, m1, m2, m3, mk, mt⟩ := id hs
    have hk3 := hPl.1
    have hin : fX8_in v1.toInt64 1 8 = if 1 ≤ v1.toInt ∧ v1.toInt ≤ 8 then 1 else 0 := in_spec v1 1 8
    by_cases c : 1 ≤ v1.toInt ∧ v1.toInt ≤ 8
    · obtain ⟨k, rfl, hk, -⟩ := int_nat (x := v1) (by omega)
      have d1 : ¬ nI k < 1 := fun q => absurd ((lt_nI (n := 1) (by omega)).mp q) (by omega)
      have d2 : nI k ≤ 8 := (nI_le_r (n := 8) (by omega)).mpr (by omega)
      by_cases e : k = rm
      · subst e
        exact ⟨-5, t_now_rows, t_now_sizes, t_now_rooms, nI a, m_mem, nI a, m_past, by simp only [fX7_room, e10, if_false, if_neg d1, if_pos d2, cRoom ha, hroom, Option.bind_some, if_true], by simp only [fX8_room, mIs (m3.trans hlines) hln1 hln2, Option.bind_some, e10, if_false, hin, if_pos c, m0, if_true], Or.inl hN⟩
      · have e1 := nI_ne e (by omega) (by omega)
        have e2 := nI_ne (fun q => e q.symm) (show rm < 2147483648 by omega) (show k < 2147483648 by omega)
        by_cases f : a < 30
        · refine ⟨0, _, _, _, _, _, _, _, by simp only [fX7_room, e10, if_false, if_neg d1, if_pos d2, cRoom ha, hroom, Option.bind_some, if_neg e1, cFull ha, if_pos f, if_true, cRow ha, cPlies ha, cAct f, ob4_some]; rfl, by simp only [fX8_room, mIs (m3.trans hlines) hln1 hln2, Option.bind_some, e10, if_false, hin, if_pos c, m0, if_neg e2, mFull ha, if_pos f, if_true, mKeeps f, ob2_some]; rfl, Or.inl (PNt.act f hlines hln1 hln2 hPl hpast hs ?_)⟩
          refine ⟨l, k, hl8, hlt, by omega, by omega, hrow, hsize, rfl, upd_same _ _ _, ?_, ?_, ?_, fun q hq => ?_, fun p hp => ?_⟩
          · rw [upd_ne _ _ (by omega)]; exact m1
          · rw [upd_ne _ _ (by omega)]; exact m2
          · rw [upd_ne _ _ (by omega)]; exact m3
          · rw [upd_ne _ _ (by omega)]; exact mk q hq
          · rw [upd_ne _ _ (by omega)]; exact mt p hp
        · exact ⟨-5, t_now_rows, t_now_sizes, t_now_rooms, nI a, m_mem, nI a, m_past, by simp only [fX7_room, e10, if_false, if_neg d1, if_pos d2, cRoom ha, hroom, Option.bind_some, if_neg e1, cFull ha, if_neg f], by simp only [fX8_room, mIs (m3.trans hlines) hln1 hln2, Option.bind_some, e10, if_false, hin, if_pos c, m0, if_neg e2, mFull ha, if_neg f], Or.inl hN⟩
    · by_cases c1 : v1.toInt < 1
      · have d1 : v1 < 1 := (lt_nI (n := 1) (by omega)).mpr c1
        exact ⟨-2, t_now_rows, t_now_sizes, t_now_rooms, nI a, m_mem, nI a, m_past, by simp only [fX7_room, e10, if_false, if_pos d1], by simp only [fX8_room, mIs (m3.trans hlines) hln1 hln2, Option.bind_some, e10, if_false, hin, if_neg c, if_true], Or.inl hN⟩
      · have d1 : ¬ v1 < 1 := fun q => c1 ((lt_nI (n := 1) (by omega)).mp q)
        have d2 : ¬ v1 ≤ 8 := fun q => absurd ((nI_le_r (n := 8) (by omega)).mp q) (by omega)
        exact ⟨-2, t_now_rows, t_now_sizes, t_now_rooms, nI a, m_mem, nI a, m_past, by simp only [fX7_room, e10, if_false, if_neg d1, if_neg d2], by simp only [fX8_room, mIs (m3.trans hlines) hln1 hln2, Option.bind_some, e10, if_false, hin, if_neg c, if_true], Or.inl hN⟩
  · obtain ⟨rfl, h2, h3, h4, h5, h6, h7, h8, h9⟩ := id hN
    exact ⟨-2, t_now_rows, t_now_sizes, t_now_rooms, t_now_acts, m_mem, m_acted, m_past, by simp only [fX7_room, if_true], by simp only [fX8_room, mIs0 (h9 3 (by omega)), Option.bind_some, if_true], Or.inr hN⟩
set_option maxHeartbeats 1000000 in
set_option maxRecDepth 100000 in
theorem cs_whirl (t_now_rows : Nat → Int32) (t_now_sizes : Nat → Int32) (t_now_rooms : Nat → Int32) (t_now_told : Int32) (t_now_acts : Int32) (m_mem : Nat → Int32) (m_acted : Int32) (m_past : Nat → Int32) (t_now_numbers : Nat → Int32) (t_now_cells : Nat → Int32) (t_now_lines : Int32) (t_now_kinds : Int32) (v1 : Int32) (hN : PN t_now_numbers t_now_cells t_now_rows t_now_sizes t_now_rooms t_now_told t_now_lines t_now_kinds t_now_acts m_mem m_acted m_past) : ∃ (r : Int32) (o_t_now_rows : Nat → Int32) (o_t_now_sizes : Nat → Int32) (o_t_now_rooms : Nat → Int32) (o_t_now_acts : Int32) (o_m_mem : Nat → Int32) (o_m_acted : Int32) (o_m_past : Nat → Int32), fX7_whirl t_now_rows t_now_sizes t_now_rooms t_now_told t_now_acts v1 = some (r, o_t_now_rows, o_t_now_sizes, o_t_now_rooms, o_t_now_acts) ∧ fX8_whirl m_mem m_acted m_past v1 = some (r, o_m_mem, o_m_acted, o_m_past) ∧ PN t_now_numbers t_now_cells o_t_now_rows o_t_now_sizes o_t_now_rooms t_now_told t_now_lines t_now_kinds o_t_now_acts o_m_mem o_m_acted o_m_past := by
  rcases hN with hN | hN
  · obtain ⟨kn, a, l, rm, nb, rfl, rfl, rfl, rfl, h⟩ := hN.view
    have l8 := h.len
    have ha := h.a30
    by_cases c1 : 1 ≤ v1.toInt ∧ v1.toInt ≤ 3
    · obtain ⟨v, rfl, hv, -⟩ := int_nat (x := v1) (by omega)
      have q1 : (nI v < 1) = False := eq_false (fun q => by have := (lt_nI (n := 1) (by omega)).mp q; omega)
      have q3 : (nI v ≤ 3) = True := eq_true ((le3_iff _).mpr c1.2)
      by_cases c2 : l.length = 0
      · have q0 : nI l.length = 0 := by rw [c2]; rfl
        exact ⟨-5, t_now_rows, t_now_sizes, t_now_rooms, nI a, m_mem, nI a, m_past, by simp only [fX7_whirl, e10, if_false, q1, q3, if_true, h.plies, Option.bind_some, if_pos q0], by simp only [fX8_whirl, h.is, Option.bind_some, e10, if_false, mIn13, if_pos c1, h.m2, if_pos q0], Or.inl hN⟩
      · have q0 : ¬ nI l.length = 0 := nI_ne (b := 0) c2 (by omega) (by omega)
        by_cases f : a < 30
        · obtain ⟨mem2, e1, e2, e3⟩ := whM_loop h.R (v := v) (by omega) (acted := nI (a + 1)) (past := kp m_mem m_past a 0) l.length FU 0 m_mem (by omega) (FU_gt (by omega)) h.m2 (fun p hp => by rw [if_neg (by omega)]; exact h.mt p hp)
          have z1 : fX7_whirl t_now_rows t_now_sizes t_now_rooms 1 (nI a) (nI v) = some (nI l.length, upd t_now_rows (a + 1) (pk (l.map (wh v))), upd t_now_sizes (a + 1) (nI l.length), upd t_now_rooms (a + 1) (nI rm), nI (a + 1)) := by simp only [fX7_whirl, e10, if_false, q1, q3, if_true, h.plies, Option.bind_some, if_neg q0, cFull ha, if_pos f, h.row, h.room, whC h.R (show v < 4 by omega), cAct f, ob4_some]
          have z2 : fX8_whirl m_mem (nI a) m_past (nI v) = fX8_whirl_47 FU m_mem (nI (a + 1)) (kp m_mem m_past a 0) (nI v) 0 := by
            rw [fX8_whirl, h.is, Option.bind_some, if_neg (by decide), mIn13, if_pos c1, if_neg (by decide), h.m2, if_neg q0, mFull ha, if_pos f, if_pos rfl, mKeeps f, ob2_some]
          have z3 : fX8_whirl_47 FU m_mem (nI (a + 1)) (kp m_mem m_past a 0) (nI v) 0 = fX8_whirl_47 FU m_mem (nI (a + 1)) (kp m_mem m_past a 0) (nI v) (nI 0) := congrArg _ lit_nI0
          refine ⟨nI l.length, _, _, _, _, mem2, _, _, z1, (z2.trans z3).trans e1, Or.inl ?_⟩
          have hlen : (l.map (wh v)).length = l.length := List.length_map _
          rw [← hlen]
          exact hN.act2 h rfl f (by omega) (fun t ht => by
            obtain ⟨x, hx, rfl⟩ := List.mem_map.mp ht
            exact wh_lt (h.lt x hx)) (fun k h1 _ => e2 k h1) (by rw [e2 2 (by omega), hlen]; exact h.m2) (fun p hp => by rw [hlen] at hp; rw [e3 p hp, getD_map hp])
        · exact ⟨-5, t_now_rows, t_now_sizes, t_now_rooms, nI a, m_mem, nI a, m_past, by simp only [fX7_whirl, e10, if_false, q1, q3, if_true, h.plies, Option.bind_some, if_neg q0, cFull ha, if_neg f], by simp only [fX8_whirl, h.is, Option.bind_some, e10, if_false, mIn13, if_pos c1, h.m2, if_neg q0, mFull ha, if_neg f], Or.inl hN⟩
    · refine ⟨-2, t_now_rows, t_now_sizes, t_now_rooms, nI a, m_mem, nI a, m_past, ?_, by simp only [fX8_whirl, h.is, Option.bind_some, e10, if_false, mIn13, if_neg c1, if_true], Or.inl hN⟩
      simp only [fX7_whirl, e10, if_false]
      exact out13 c1
  · obtain ⟨rfl, h2, h3, h4, h5, h6, h7, h8, h9⟩ := id hN
    exact ⟨-2, t_now_rows, t_now_sizes, t_now_rooms, t_now_acts, m_mem, m_acted, m_past, by simp only [fX7_whirl, if_true], by simp only [fX8_whirl, mIs0 (h9 3 (by omega)), Option.bind_some, if_true], Or.inr hN⟩
set_option maxHeartbeats 1000000 in
set_option maxRecDepth 100000 in
theorem cs_undo (t_now_told : Int32) (t_now_acts : Int32) (m_mem : Nat → Int32) (m_acted : Int32) (m_past : Nat → Int32) (t_now_numbers : Nat → Int32) (t_now_cells : Nat → Int32) (t_now_rows : Nat → Int32) (t_now_sizes : Nat → Int32) (t_now_rooms : Nat → Int32) (t_now_lines : Int32) (t_now_kinds : Int32)  (hN : PN t_now_numbers t_now_cells t_now_rows t_now_sizes t_now_rooms t_now_told t_now_lines t_now_kinds t_now_acts m_mem m_acted m_past) : ∃ (r : Int32) (o_t_now_acts : Int32) (o_m_mem : Nat → Int32) (o_m_acted : Int32), fX7_undo t_now_told t_now_acts = some (r, o_t_now_acts) ∧ fX8_undo m_mem m_acted m_past = some (r, o_m_mem, o_m_acted) ∧ PN t_now_numbers t_now_cells t_now_rows t_now_sizes t_now_rooms t_now_told t_now_lines t_now_kinds o_t_now_acts o_m_mem o_m_acted m_past := by
  rcases hN with hN | hN
  · obtain ⟨kn, a, ln, rfl, rfl, rfl, rfl, ha, rfl, hln1, hln2, hPl, hpast, hs⟩ := id hN
    obtain ⟨l, rm, hl8, hlt, hrm1, hrm8, hrow, hsize, hroom, m0, m1, m2, m3, mk, mt⟩ := id hs
    by_cases e : a = 0
    · subst e
      have e' : nI 0 = 0 := rfl
      exact ⟨-5, nI 0, m_mem, nI 0, by simp only [fX7_undo, e10, if_false, if_pos e'], by simp only [fX8_undo, mIs m3 hln1 hln2, Option.bind_some, e10, if_false, if_pos e'], Or.inl hN⟩
    · have e' : ¬ nI a = 0 := nI_ne (b := 0) e (by omega) (by omega)
      have es : nI a - 1 = nI (a - 1) := nI_sub (b := 1) (by omega)
      refine ⟨nI (a - 1), _, _, _, by simp only [fX7_undo, e10, if_false, if_neg e', es], by simp only [fX8_undo, mIs m3 hln1 hln2, Option.bind_some, e10, if_false, if_neg e', es, mBack (show a - 1 < 30 by omega), ob2_some]; rfl, Or.inl ⟨kn, a - 1, ln, rfl, rfl, rfl, rfl, by omega, rfl, hln1, hln2, hPl, fun j hj => hpast j (by omega), ?_⟩⟩
      refine Snap.congr hPl.1 (fun k hk => ?_) (hpast (a - 1) (by omega))
      show gb m_mem m_past (a - 1) 0 k = m_past (27 * (a - 1) + k)
      unfold gb
      rw [if_pos (by omega)]
  · obtain ⟨rfl, h2, h3, h4, h5, h6, h7, h8, h9⟩ := id hN
    exact ⟨-2, t_now_acts, m_mem, m_acted, by simp only [fX7_undo, if_true], by simp only [fX8_undo, mIs0 (h9 3 (by omega)), Option.bind_some, if_true], Or.inr hN⟩
set_option maxHeartbeats 1000000 in
set_option maxRecDepth 100000 in
theorem cs_anew (t_now_told : Int32) (t_now_acts : Int32) (m_mem : Nat → Int32) (m_acted : Int32) (m_past : Nat → Int32) (t_now_numbers : Nat → Int32) (t_now_cells : Nat → Int32) (t_now_rows : Nat → Int32) (t_now_sizes : Nat → Int32) (t_now_rooms : Nat → Int32) (t_now_lines : Int32) (t_now_kinds : Int32)  (hN : PN t_now_numbers t_now_cells t_now_rows t_now_sizes t_now_rooms t_now_told t_now_lines t_now_kinds t_now_acts m_mem m_acted m_past) : ∃ (r : Int32) (o_t_now_acts : Int32) (o_m_mem : Nat → Int32) (o_m_acted : Int32), fX7_anew t_now_told t_now_acts = some (r, o_t_now_acts) ∧ fX8_anew m_mem m_acted m_past = some (r, o_m_mem, o_m_acted) ∧ PN t_now_numbers t_now_cells t_now_rows t_now_sizes t_now_rooms t_now_told t_now_lines t_now_kinds o_t_now_acts o_m_mem o_m_acted m_past := by
  rcases hN with hN | hN
  · obtain ⟨kn, a, ln, rfl, rfl, rfl, rfl, ha, rfl, hln1, hln2, hPl, hpast, hs⟩ := id hN
    obtain ⟨l, rm, hl8, hlt, hrm1, hrm8, hrow, hsize, hroom, m0, m1, m2, m3, mk, mt⟩ := id hs
    by_cases e : a = 0
    · subst e
      have e' : nI 0 ≤ 0 := by decide
      exact ⟨nI 0, nI 0, m_mem, nI 0, by simp only [fX7_anew, e10, if_false]; rfl, by simp only [fX8_anew, mIs m3 hln1 hln2, Option.bind_some, e10, if_false, if_pos e'], Or.inl hN⟩
    · have e' : ¬ nI a ≤ 0 := fun q => absurd ((nI_le' (b := 0) (by omega) (by omega)).mp q) (by omega)
      refine ⟨nI a, nI 0, _, _, by simp only [fX7_anew, e10, if_false]; rfl, by simp only [fX8_anew, mIs m3 hln1 hln2, Option.bind_some, e10, if_false, if_neg e', mBack0, ob2_some]; rfl, Or.inl ⟨kn, 0, ln, rfl, rfl, rfl, rfl, by omega, rfl, hln1, hln2, hPl, fun j hj => absurd hj (by omega), ?_⟩⟩
      refine Snap.congr hPl.1 (fun k hk => ?_) (hpast 0 (by omega))
      show gb m_mem m_past 0 0 k = m_past (27 * 0 + k)
      unfold gb
      rw [if_pos (by omega)]
  · obtain ⟨rfl, h2, h3, h4, h5, h6, h7, h8, h9⟩ := id hN
    exact ⟨-2, t_now_acts, m_mem, m_acted, by simp only [fX7_anew, if_true], by simp only [fX8_anew, mIs0 (h9 3 (by omega)), Option.bind_some, if_true], Or.inr hN⟩
