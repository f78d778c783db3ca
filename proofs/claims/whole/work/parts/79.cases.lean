set_option maxHeartbeats 100000 in
set_option maxRecDepth 100000 in
theorem cs_whirl (t_now_rows : Nat → Int32) (t_now_sizes : Nat → Int32) (t_now_rooms : Nat → Int32) (t_now_told : Int32) (t_now_acts : Int32) (m_mem : Nat → Int32) (m_acted : Int32) (m_past : Nat → Int32) (t_now_numbers : Nat → Int32) (t_now_cells : Nat → Int32) (t_now_lines : Int32) (t_now_kinds : Int32) (v1 : Int32) (hN : PN t_now_numbers t_now_cells t_now_rows t_now_sizes t_now_rooms t_now_told t_now_lines t_now_kinds t_now_acts m_mem m_acted m_past) : ∃ (r : Int32) (o_t_now_rows : Nat → Int32) (o_t_now_sizes : Nat → Int32) (o_t_now_rooms : Nat → Int32) (o_t_now_acts : Int32) (o_m_mem : Nat → Int32) (o_m_acted : Int32) (o_m_past : Nat → Int32), fX7_whirl t_now_rows t_now_sizes t_now_rooms t_now_told t_now_acts v1 = some (r, o_t_now_rows, o_t_now_sizes, o_t_now_rooms, o_t_now_acts) ∧ fX8_whirl m_mem m_acted m_past v1 = some (r, o_m_mem, o_m_acted, o_m_past) ∧ PN t_now_numbers t_now_cells o_t_now_rows o_t_now_sizes o_t_now_rooms t_now_told t_now_lines t_now_kinds o_t_now_acts o_m_mem o_m_acted o_m_past := by
  rcases hN with hN | hN
  · obtain ⟨kn, a, l, rm, nb, rfl, rfl, rfl, rfl, h⟩ := hN.view
    have l8 := h.len
    have ha := h.a30
    by_cases c1 : 1 ≤ v1.toInt ∧ v1.toInt ≤ 3
    · obtain ⟨v, rfl, hv, -⟩ := int_nat (x := v1) (by omega)
      have q1 : (nI v < 1) = False := eq_false (fun q => by have := (lt_nI (n := 1) (by omega)).mp q; omega)
      have q3 : (nI v ≤ 3) = True := eq_true ((le3_iff _).mpr c1.2)
      by_cases c2 : l.length = 0
      · have q0 : nI l.length = 0 := by rw [c2]; rfl
        exact ⟨-5, t_now_rows, t_now_sizes, t_now_rooms, nI a, m_mem, nI a, m_past, by simp only [fX7_whirl, e10, if_false, q1, q3, if_true, h.plies, Option.bind_some, if_pos q0], by simp only [fX8_whirl, h.is, Option.bind_some, e10, if_false, mIn13, if_pos c1, h.m2, if_pos q0], Or.inl hN⟩
      · have q0 : ¬ nI l.length = 0 := nI_ne (b := 0) c2 (by omega) (by omega)
        by_cases f : a < 30
        · obtain ⟨mem2, e1, e2, e3⟩ := whM_loop h.R (v := v) (by omega) (acted := nI (a + 1)) (past := kp m_mem m_past a 0) l.length FU 0 m_mem (by omega) (FU_gt (by omega)) h.m2 (fun p hp => by rw [if_neg (by omega)]; exact h.mt p hp)
          refine ⟨nI l.length, _, _, _, _, mem2, _, _, by simp only [fX7_whirl, e10, if_false, q1, q3, if_true, h.plies, Option.bind_some, if_neg q0, cFull ha, if_pos f, h.row, h.room, whC h.R (show v < 4 by omega), cAct f, ob4_some]; rfl, by simp only [fX8_whirl, h.is, Option.bind_some, e10, if_false, mIn13, if_pos c1, h.m2, if_neg q0, mFull ha, if_pos f, if_true, mKeeps f, ob2_some]; exact e1, Or.inl ?_⟩
          have hlen : (l.map (wh v)).length = l.length := List.length_map _
          rw [← hlen]
          exact hN.act2 h rfl f (by omega) (fun t ht => by
            obtain ⟨x, hx, rfl⟩ := List.mem_map.mp ht
            exact wh_lt (h.lt x hx)) (fun k h1 _ => e2 k h1) (by rw [e2 2 (by omega), hlen]; exact h.m2) (fun p hp => by rw [hlen] at hp; rw [e3 p hp, getD_map hp])
        · exact ⟨-5, t_now_rows, t_now_sizes, t_now_rooms, nI a, m_mem, nI a, m_past, by simp only [fX7_whirl, e10, if_false, q1, q3, if_true, h.plies, Option.bind_some, if_neg q0, cFull ha, if_neg f], by simp only [fX8_whirl, h.is, Option.bind_some, e10, if_false, mIn13, if_pos c1, h.m2, if_neg q0, mFull ha, if_neg f], Or.inl hN⟩
    · refine ⟨-2, t_now_rows, t_now_sizes, t_now_rooms, nI a, m_mem, nI a, m_past, ?_, by simp only [fX8_whirl, h.is, Option.bind_some, e10, if_false, mIn13, if_neg c1, if_true], Or.inl hN⟩
      simp only [fX7_whirl, e10, if_false]
      exact out13 c1
  · obtain ⟨rfl, h2, h3, h4, h5, h6, h7, h8, h9⟩ := id hN
    exact ⟨-2, t_now_rows, t_now_sizes, t_now_rooms, t_now_acts, m_mem, m_acted, m_past, by simp only [fX7_whirl, if_true], by simp only [fX8_whirl, mIs0 (h9 3 (by omega)), Option.bind_some, if_true], Or.inr hN⟩
