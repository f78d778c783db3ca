set_option maxHeartbeats 4000000 in
set_option maxRecDepth 100000 in
theorem cs_likes (t_now_rows : Nat → Int32) (t_now_sizes : Nat → Int32) (t_now_told : Int32) (t_now_acts : Int32) (m_mem : Nat → Int32) (m_row : Nat → Int32) (m_wide : Int32) (m_lost : Int32) (t_now_numbers : Nat → Int32) (t_now_cells : Nat → Int32) (t_now_rooms : Nat → Int32) (t_now_lines : Int32) (t_now_kinds : Int32) (m_acted : Int32) (m_past : Nat → Int32)  (hN : PN t_now_numbers t_now_cells t_now_rows t_now_sizes t_now_rooms t_now_told t_now_lines t_now_kinds t_now_acts m_mem m_acted m_past) : ∃ (r : Int32) (o_m_row : Nat → Int32) (o_m_wide : Int32) (o_m_lost : Int32), fX7_likes t_now_rows t_now_sizes t_now_told t_now_acts = some r ∧ fX8_likes m_mem m_row m_wide m_lost = some (r, o_m_row, o_m_wide, o_m_lost) := by
  rcases hN with hN | hN
  · obtain ⟨kn, a, l, rm, nb, rfl, rfl, rfl, rfl, h⟩ := hN.view
    obtain ⟨row', hl, hr⟩ := h.lays m_row m_wide m_lost
    exact ⟨nI (likesN l), row', nI l.length, 0, by simp only [fX7_likes, e10, if_false, h.row, h.plies, Option.bind_some, likes_pk h.R], by simp only [fX8_likes, hl, ob3_some, h.is, Option.bind_some, e10, if_false, mLikes h.R hr]⟩
  · obtain ⟨rfl, h2, h3, h4, h5, h6, h7, h8, h9⟩ := id hN
    obtain ⟨row', hl, hr⟩ := mLays (mem := m_mem) (l := []) (by decide) (h9 2 (by omega)) (fun p hp => absurd hp (Nat.not_lt_zero p)) m_row m_wide m_lost
    exact ⟨-2, row', nI 0, 0, by simp only [fX7_likes, if_true], by simp only [fX8_likes, hl, ob3_some, mIs0 (h9 3 (by omega)), Option.bind_some, if_true]; rfl⟩
