set_option maxHeartbeats 4000000 in
set_option maxRecDepth 100000 in
theorem cs_stiff (t_now_cells : Nat → Int32) (t_now_rows : Nat → Int32) (t_now_sizes : Nat → Int32) (t_now_told : Int32) (t_now_acts : Int32) (m_mem : Nat → Int32) (m_row : Nat → Int32) (m_wide : Int32) (m_lost : Int32) (t_now_numbers : Nat → Int32) (t_now_rooms : Nat → Int32) (t_now_lines : Int32) (t_now_kinds : Int32) (m_acted : Int32) (m_past : Nat → Int32) (v1 : Int32) (v2 : Int32) (v3 : Int32) (hN : PN t_now_numbers t_now_cells t_now_rows t_now_sizes t_now_rooms t_now_told t_now_lines t_now_kinds t_now_acts m_mem m_acted m_past) : ∃ (r : Int64) (o_m_row : Nat → Int32) (o_m_wide : Int32) (o_m_lost : Int32), fX7_stiff t_now_cells t_now_rows t_now_sizes t_now_told t_now_acts v1 v2 v3 = some r ∧ fX8_stiff m_mem m_row m_wide m_lost v1 v2 v3 = some (r, o_m_row, o_m_wide, o_m_lost) := by
  rcases hN with hN | hN
  · obtain ⟨kn, a, l, rm, nb, rfl, rfl, rfl, rfl, h⟩ := hN.view
    by_cases c1 : 0 ≤ v1.toInt ∧ v1.toInt ≤ 2
    · by_cases c2 : 0 ≤ v2.toInt ∧ v2.toInt ≤ 2
      · by_cases c3 : 0 ≤ v3.toInt ∧ v3.toInt ≤ 2
        · obtain ⟨row', hl, hr⟩ := h.lays m_row m_wide m_lost
          obtain ⟨w, rfl, hw, -⟩ := int_nat c1.1
          obtain ⟨i, rfl, hi, -⟩ := int_nat c2.1
          obtain ⟨j, rfl, hj, -⟩ := int_nat c3.1
          have e : 3 * nI i + nI j = nI (3 * i + j) := by rw [lit_nI3, nI_mul, nI_add]
          have q1 := ax_lo c1
          have q2 := ax_hi c1
          exact ⟨_, row', nI l.length, 0, by simp only [fX7_stiff, e10, if_false, q1, q2, cAxis, if_pos c2, if_pos c3, e]; rw [lit_nI0, h.total (by omega) (by omega) (by omega), Option.bind_some], by simp only [fX8_stiff, h.is, Option.bind_some, mIn2, if_pos c1, if_pos c2, if_pos c3, e10, if_false, hl, ob3_some]; rw [lit_nI0, h.sum h.R h.lt hr (by omega) (by omega) (by omega) (by omega), Option.bind_some]⟩
        · have q1 := ax_lo c1
          have q2 := ax_hi c1
          exact ⟨_, m_row, m_wide, m_lost, by simp only [fX7_stiff, e10, if_false, q1, q2, cAxis, if_pos c2, if_neg c3, if_true]; rfl, by simp only [fX8_stiff, h.is, Option.bind_some, mIn2, if_pos c1, if_pos c2, if_neg c3, e10, if_false, if_true]⟩
      · have q1 := ax_lo c1
        have q2 := ax_hi c1
        exact ⟨_, m_row, m_wide, m_lost, by simp only [fX7_stiff, e10, if_false, q1, q2, cAxis, if_neg c2, if_true]; rfl, by simp only [fX8_stiff, h.is, Option.bind_some, mIn2, if_pos c1, if_neg c2, e10, if_false, if_true]⟩
    · refine ⟨-9223372036854775808, m_row, m_wide, m_lost, ?_, by simp only [fX8_stiff, h.is, Option.bind_some, mIn2, if_neg c1, e10, if_false, if_true]⟩
      simp only [fX7_stiff, e10, if_false]
      exact ax_out c1
  · obtain ⟨rfl, h2, h3, h4, h5, h6, h7, h8, h9⟩ := id hN
    exact ⟨-9223372036854775808, m_row, m_wide, m_lost, by simp only [fX7_stiff, if_true], by simp only [fX8_stiff, mIs0 (h9 3 (by omega)), Option.bind_some, if_true]⟩
set_option maxHeartbeats 4000000 in
set_option maxRecDepth 100000 in
theorem cs_likes (t_now_rows : Nat → Int32) (t_now_sizes : Nat → Int32) (t_now_told : Int32) (t_now_acts : Int32) (m_mem : Nat → Int32) (m_row : Nat → Int32) (m_wide : Int32) (m_lost : Int32) (t_now_numbers : Nat → Int32) (t_now_cells : Nat → Int32) (t_now_rooms : Nat → Int32) (t_now_lines : Int32) (t_now_kinds : Int32) (m_acted : Int32) (m_past : Nat → Int32)  (hN : PN t_now_numbers t_now_cells t_now_rows t_now_sizes t_now_rooms t_now_told t_now_lines t_now_kinds t_now_acts m_mem m_acted m_past) : ∃ (r : Int32) (o_m_row : Nat → Int32) (o_m_wide : Int32) (o_m_lost : Int32), fX7_likes t_now_rows t_now_sizes t_now_told t_now_acts = some r ∧ fX8_likes m_mem m_row m_wide m_lost = some (r, o_m_row, o_m_wide, o_m_lost) := by
  rcases hN with hN | hN
  · obtain ⟨kn, a, l, rm, nb, rfl, rfl, rfl, rfl, h⟩ := hN.view
    obtain ⟨row', hl, hr⟩ := h.lays m_row m_wide m_lost
    exact ⟨nI (likesN l), row', nI l.length, 0, by simp only [fX7_likes, e10, if_false, h.row, h.plies, Option.bind_some, likes_pk h.R], by simp only [fX8_likes, hl, ob3_some, h.is, Option.bind_some, e10, if_false, mLikes h.R hr]⟩
  · obtain ⟨rfl, h2, h3, h4, h5, h6, h7, h8, h9⟩ := id hN
    obtain ⟨row', hl, hr⟩ := mLays (mem := m_mem) (l := []) (by decide) (h9 2 (by omega)) (fun p hp => absurd hp (Nat.not_lt_zero p)) m_row m_wide m_lost
    exact ⟨-2, row', nI 0, 0, by simp only [fX7_likes, if_true], by simp only [fX8_likes, hl, ob3_some, mIs0 (h9 3 (by omega)), Option.bind_some, if_true]; rfl⟩
