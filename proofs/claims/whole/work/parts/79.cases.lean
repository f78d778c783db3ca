set_option maxHeartbeats 4000000 in
set_option maxRecDepth 100000 in
theorem cs_even (t_now_cells : Nat → Int32) (t_now_rows : Nat → Int32) (t_now_sizes : Nat → Int32) (t_now_told : Int32) (t_now_kinds : Int32) (t_now_acts : Int32) (m_mem : Nat → Int32) (m_row : Nat → Int32) (m_wide : Int32) (m_lost : Int32) (t_now_numbers : Nat → Int32) (t_now_rooms : Nat → Int32) (t_now_lines : Int32) (m_acted : Int32) (m_past : Nat → Int32)  (hN : PN t_now_numbers t_now_cells t_now_rows t_now_sizes t_now_rooms t_now_told t_now_lines t_now_kinds t_now_acts m_mem m_acted m_past) : ∃ (r : Int32) (o_m_row : Nat → Int32) (o_m_wide : Int32) (o_m_lost : Int32), fX7_even t_now_cells t_now_rows t_now_sizes t_now_told t_now_kinds t_now_acts = some r ∧ fX8_even m_mem m_row m_wide m_lost = some (r, o_m_row, o_m_wide, o_m_lost) := by
  rcases hN with hN | hN
  · obtain ⟨kn, a, l, rm, nb, rfl, rfl, rfl, rfl, h⟩ := hN.view
    obtain ⟨row', hl, hr⟩ := h.lays m_row m_wide m_lost
    have l8 := h.len
    have hb : fX1_isBalanced t_now_rows t_now_sizes (nI kn) (nI a) = some (b32 (balL l 3 0)) := by
      have q := h.balC_loop kn FU 0 (by omega) (FU_gt (by have := h.kn3; omega))
      rw [bal_kn h.kn3 h.lt] at q
      exact q
    have hw := h.warpM h.R h.lt hr (g := 0) (by omega)
    have ht := h.twistM h.R h.lt hr (g := 0) (by omega)
    have hw0 := h.wz0 h.R h.lt
    have ht0 := h.tz0 h.R h.lt
    simp only [fX7_even, e10, if_false, h.row, h.plies, Option.bind_some, h.shape h.R h.lt, hb, fX8_even, h.is, hl, ob3_some, mMir h.R hr, fX8_even_26, fX8_even_40, fX8_even_55, show fX8_warpHere m_mem row' (nI l.length) 0 = _ from hw, show fX8_twistHere m_mem row' (nI l.length) 0 = _ from ht, mBal h.R hr, hw0, ht0, shp]
    cases isMir l <;> cases isFla (ceQ nb) l <;> cases isStr (ceQ nb) l <;> cases balL l 3 0 <;> exact ⟨_, row', nI l.length, 0, rfl, rfl⟩
  · obtain ⟨rfl, h2, h3, h4, h5, h6, h7, h8, h9⟩ := id hN
    exact ⟨-2, m_row, m_wide, m_lost, by simp only [fX7_even, if_true], by simp only [fX8_even, mIs0 (h9 3 (by omega)), Option.bind_some, if_true]⟩
