set_option maxHeartbeats 4000000 in
set_option maxRecDepth 100000 in
theorem cs_kind (t_now_numbers : Nat → Int32) (t_now_rows : Nat → Int32) (t_now_sizes : Nat → Int32) (t_now_told : Int32) (t_now_kinds : Int32) (t_now_acts : Int32) (m_mem : Nat → Int32) (t_now_cells : Nat → Int32) (t_now_rooms : Nat → Int32) (t_now_lines : Int32) (m_acted : Int32) (m_past : Nat → Int32) (v1 : Int32) (v2 : Int32) (hN : PN t_now_numbers t_now_cells t_now_rows t_now_sizes t_now_rooms t_now_told t_now_lines t_now_kinds t_now_acts m_mem m_acted m_past) : ∃ (r : Int32), fX7_kind t_now_numbers t_now_rows t_now_sizes t_now_told t_now_kinds t_now_acts v1 v2 = some r ∧ fX8_kind m_mem v1 v2 = some r := by
  rcases hN with hN | hN
  · obtain ⟨kn, a, l, rm, nb, rfl, rfl, rfl, rfl, h⟩ := hN.view
    by_cases c1 : 0 ≤ v1.toInt ∧ v1.toInt < kn
    · by_cases c2 : 0 ≤ v2.toInt ∧ v2.toInt ≤ 5
      · obtain ⟨i, rfl, hi, -⟩ := int_nat c1.1
        obtain ⟨j, rfl, hj, -⟩ := int_nat c2.1
        have k3 := h.kn3
        have q5 : (nI j ≤ 5) = True := eq_true ((le5_iff _).mpr c2.2)
        by_cases c5 : j = 5
        · subst c5
          exact ⟨nI (kc l i), by simp only [fX7_kind, h.ckind, if_pos c1, nn0 c2.1, q5, e10, if_false, if_true]; rw [if_pos (show nI 5 = 5 from rfl), h.ofKind (by omega), Option.bind_some], by simp only [fX8_kind, h.mkind, if_pos c1, mIn5, if_pos c2, Option.bind_some, e10, if_false]; rw [if_pos (show (5 : Int32) ≤ nI 5 by decide)]; exact (kind_loop h.R h.m2 h.mt (t := i) (by omega) l.length FU 0 0 (by omega) (FU_gt (by have := h.len; omega))).trans (by rw [Nat.zero_add]; rfl)⟩
        · have e1 : (5 : Int32) * nI i + nI j = nI (5 * i + j) := by rw [lit_nI5, nI_mul, nI_add]
          have e2 : (4 : Int32) + 5 * nI i + nI j = nI (4 + (5 * i + j)) := by rw [lit_nI5, lit_nI4, nI_mul, nI_add, nI_add, Nat.add_assoc]
          exact ⟨i32 (nb (5 * i + j)), by simp only [fX7_kind, h.ckind, if_pos c1, nn0 c2.1, q5, e10, if_false, if_true]; rw [if_neg (show ¬ nI j = (5 : Int32) from nI_ne (b := 5) c5 (by omega) (by omega)), cNumber h (by omega) (by omega), Option.bind_some], by simp only [fX8_kind, h.mkind, if_pos c1, mIn5, if_pos c2, Option.bind_some, e10, if_false, e2]; rw [if_neg (fun q => by have := (nI_le' (a := 5) (by omega) (by omega)).mp q; omega), chkN (by omega) (by omega), nI_clamp' (by omega), h.mk.2 _ (by omega)]⟩
      · refine ⟨-2, ?_, by simp only [fX8_kind, h.mkind, if_pos c1, mIn5, if_neg c2, Option.bind_some, e10, if_false, if_true]⟩
        simp only [fX7_kind, h.ckind, if_pos c1, e10, if_false]
        exact out_lo le5_iff c2
    · exact ⟨-2, by simp only [fX7_kind, h.ckind, if_neg c1, if_true], by simp only [fX8_kind, h.mkind, if_neg c1, Option.bind_some, if_true]⟩
  · obtain ⟨rfl, h2, h3, h4, h5, h6, h7, h8, h9⟩ := id hN
    exact ⟨-2, by simp only [fX7_kind, fX7_isKind, if_true], by simp only [fX8_kind, mIsKind (show m_mem 1 = nI 0 from h9 1 (by omega)) (show 0 < 1000 by omega), if_neg (show ¬ (0 ≤ v1.toInt ∧ v1.toInt < ((0 : Nat) : Int)) by omega), Option.bind_some, if_true]⟩
set_option maxHeartbeats 4000000 in
set_option maxRecDepth 100000 in
theorem cs_ply (t_now_rows : Nat → Int32) (t_now_sizes : Nat → Int32) (t_now_told : Int32) (t_now_acts : Int32) (m_mem : Nat → Int32) (t_now_numbers : Nat → Int32) (t_now_cells : Nat → Int32) (t_now_rooms : Nat → Int32) (t_now_lines : Int32) (t_now_kinds : Int32) (m_acted : Int32) (m_past : Nat → Int32) (v1 : Int32) (v2 : Int32) (hN : PN t_now_numbers t_now_cells t_now_rows t_now_sizes t_now_rooms t_now_told t_now_lines t_now_kinds t_now_acts m_mem m_acted m_past) : ∃ (r : Int32), fX7_ply t_now_rows t_now_sizes t_now_told t_now_acts v1 v2 = some r ∧ fX8_ply m_mem v1 v2 = some r := by
  rcases hN with hN | hN
  · obtain ⟨kn, a, l, rm, nb, rfl, rfl, rfl, rfl, h⟩ := hN.view
    by_cases c1 : 0 ≤ v1.toInt ∧ v1.toInt < l.length
    · obtain ⟨i, rfl, hi, -⟩ := int_nat c1.1
      have l8 := h.len
      have ki : i < 8 := by omega
      by_cases c2 : 0 ≤ v2.toInt ∧ v2.toInt ≤ 4
      · obtain ⟨j, rfl, hj, -⟩ := int_nat c2.1
        simp only [fX7_ply, h.cply, if_pos c1, e10, if_false, Option.bind_some, h.type ki, h.plies, fX8_ply, h.mply, mIn4, if_pos c2, chk19 ki, clamp19 ki, h.mt i (by omega), h.m2, fX3_farOf, fX3_thickOf]
        have hj5 : j = 0 ∨ j = 1 ∨ j = 2 ∨ j = 3 ∨ j = 4 := by omega
        rcases hj5 with rfl | rfl | rfl | rfl | rfl <;> exact ⟨_, rfl, rfl⟩
      · refine ⟨-2, ?_, by simp only [fX8_ply, h.mply, if_pos c1, e10, if_false, Option.bind_some, mIn4, if_neg c2, if_true]⟩
        simp only [fX7_ply, h.cply, if_pos c1, e10, if_false, Option.bind_some, h.type ki, h.plies]
        have z0 : ∀ k : Nat, k < 5 → ¬ v2 = nI k := by
          intro k hk q
          apply c2
          rw [q, nI_int (by omega)]
          omega
        rw [if_neg (show ¬ v2 = (0 : Int32) from z0 0 (by omega)), if_neg (show ¬ v2 = (1 : Int32) from z0 1 (by omega)), if_neg (show ¬ v2 = (2 : Int32) from z0 2 (by omega)), if_neg (show ¬ v2 = (3 : Int32) from z0 3 (by omega)), if_neg (show ¬ v2 = (4 : Int32) from z0 4 (by omega))]
    · exact ⟨-2, by simp only [fX7_ply, h.cply, if_neg c1, if_true, Option.bind_some], by simp only [fX8_ply, h.mply, if_neg c1, Option.bind_some, if_true]⟩
  · obtain ⟨rfl, h2, h3, h4, h5, h6, h7, h8, h9⟩ := id hN
    exact ⟨-2, by simp only [fX7_ply, fX7_isPly, if_true, Option.bind_some], by simp only [fX8_ply, mIsPly (show m_mem 2 = nI 0 from h9 2 (by omega)) (show 0 < 1000 by omega), if_neg (show ¬ (0 ≤ v1.toInt ∧ v1.toInt < ((0 : Nat) : Int)) by omega), Option.bind_some, if_true]⟩
set_option maxHeartbeats 4000000 in
set_option maxRecDepth 100000 in
theorem cs_lost (t_now_cells : Nat → Int32) (t_now_rows : Nat → Int32) (t_now_sizes : Nat → Int32) (t_now_told : Int32) (t_now_acts : Int32) (m_mem : Nat → Int32) (m_row : Nat → Int32) (m_wide : Int32) (m_lost : Int32) (t_now_numbers : Nat → Int32) (t_now_rooms : Nat → Int32) (t_now_lines : Int32) (t_now_kinds : Int32) (m_acted : Int32) (m_past : Nat → Int32) (v1 : Int32) (v2 : Int32) (hN : PN t_now_numbers t_now_cells t_now_rows t_now_sizes t_now_rooms t_now_told t_now_lines t_now_kinds t_now_acts m_mem m_acted m_past) : ∃ (r : Int64) (o_m_row : Nat → Int32) (o_m_wide : Int32) (o_m_lost : Int32), fX7_lost t_now_cells t_now_rows t_now_sizes t_now_told t_now_acts v1 v2 = some r ∧ fX8_lost m_mem m_row m_wide m_lost v1 v2 = some (r, o_m_row, o_m_wide, o_m_lost) := by
  rcases hN with hN | hN
  · obtain ⟨kn, a, l, rm, nb, rfl, rfl, rfl, rfl, h⟩ := hN.view
    by_cases c1 : 0 ≤ v1.toInt ∧ v1.toInt < l.length
    · obtain ⟨i, rfl, hi, -⟩ := int_nat c1.1
      have l8 := h.len
      by_cases c2 : 0 ≤ v2.toInt ∧ v2.toInt ≤ 2
      · obtain ⟨j, rfl, hj, -⟩ := int_nat c2.1
        obtain ⟨row', hl, hr⟩ := h.lays m_row m_wide m_lost
        have q2 : (nI j ≤ 2) = True := eq_true ((le2_iff _).mpr c2.2)
        exact ⟨LV nb l j i, row', nI l.length, _, by simp only [fX7_lost, h.cply, if_pos c1, e10, if_false, Option.bind_some, nn0 c2.1, q2, if_true, h.left (show i < 8 by omega) (show j < 3 by omega)], by simp only [fX8_lost, h.mply, if_pos c1, e10, if_false, Option.bind_some, mIn2, if_pos c2, hl, ob3_some, h.lostBy hr (show i < 8 by omega) (show j < 3 by omega), ob2_some]; rfl⟩
      · refine ⟨-9223372036854775808, m_row, m_wide, m_lost, ?_, by simp only [fX8_lost, h.mply, if_pos c1, e10, if_false, Option.bind_some, mIn2, if_neg c2, if_true]⟩
        simp only [fX7_lost, h.cply, if_pos c1, e10, if_false, Option.bind_some]
        exact out_lo le2_iff c2
    · exact ⟨-9223372036854775808, m_row, m_wide, m_lost, by simp only [fX7_lost, h.cply, if_neg c1, if_true, Option.bind_some], by simp only [fX8_lost, h.mply, if_neg c1, Option.bind_some, if_true]⟩
  · obtain ⟨rfl, h2, h3, h4, h5, h6, h7, h8, h9⟩ := id hN
    exact ⟨-9223372036854775808, m_row, m_wide, m_lost, by simp only [fX7_lost, fX7_isPly, if_true, Option.bind_some], by simp only [fX8_lost, mIsPly (show m_mem 2 = nI 0 from h9 2 (by omega)) (show 0 < 1000 by omega), if_neg (show ¬ (0 ≤ v1.toInt ∧ v1.toInt < ((0 : Nat) : Int)) by omega), Option.bind_some, if_true]⟩
set_option maxHeartbeats 4000000 in
set_option maxRecDepth 100000 in
theorem cs_worst (t_now_cells : Nat → Int32) (t_now_rows : Nat → Int32) (t_now_sizes : Nat → Int32) (t_now_told : Int32) (t_now_acts : Int32) (m_mem : Nat → Int32) (m_row : Nat → Int32) (m_wide : Int32) (m_lost : Int32) (t_now_numbers : Nat → Int32) (t_now_rooms : Nat → Int32) (t_now_lines : Int32) (t_now_kinds : Int32) (m_acted : Int32) (m_past : Nat → Int32) (v1 : Int32) (hN : PN t_now_numbers t_now_cells t_now_rows t_now_sizes t_now_rooms t_now_told t_now_lines t_now_kinds t_now_acts m_mem m_acted m_past) : ∃ (r : Int32) (o_m_row : Nat → Int32) (o_m_wide : Int32) (o_m_lost : Int32), fX7_worst t_now_cells t_now_rows t_now_sizes t_now_told t_now_acts v1 = some r ∧ fX8_worst m_mem m_row m_wide m_lost v1 = some (r, o_m_row, o_m_wide, o_m_lost) := by
  rcases hN with hN | hN
  · obtain ⟨kn, a, l, rm, nb, rfl, rfl, rfl, rfl, h⟩ := hN.view
    have l8 := h.len
    by_cases c2 : 0 ≤ v1.toInt ∧ v1.toInt ≤ 2
    · obtain ⟨w, rfl, hw, -⟩ := int_nat c2.1
      obtain ⟨row', hl, hr⟩ := h.lays m_row m_wide m_lost
      have q2 : (nI w ≤ 2) = True := eq_true ((le2_iff _).mpr c2.2)
      have hw3 : w < 3 := by omega
      obtain ⟨n, hn⟩ := FU_10
      have key : ∃ (r : Int32) (lost' : Int32), fX7_worst_29 FU t_now_cells t_now_rows t_now_sizes (nI a) (nI w) (-1) 0 (nI 0) = some r ∧ fX8_worst_30 FU m_mem row' (nI l.length) 0 (nI w) (-1) (nI 0) = some (r, row', nI l.length, lost') := by
        rw [show fX7_worst_29 FU = fX7_worst_29 (n + 9 + 1) by rw [hn], show fX8_worst_30 FU = fX8_worst_30 (n + 9 + 1) by rw [hn]]
        by_cases c : l.length = 0
        · have q := (nI_le' (a := l.length) (b := 0) (by omega) (by omega)).mpr (by omega)
          exact ⟨-1, 0, by rw [fX7_worst_29, h.plies, Option.bind_some, if_pos q], by rw [fX8_worst_30, if_pos q]⟩
        · have q : ¬ nI l.length ≤ nI 0 := fun q => by have := (nI_le' (by omega) (by omega)).mp q; omega
          obtain ⟨r, lo, h1, h2⟩ := h.worst hr hw3 (l.length - 1) (n + 9) (n + 9) 1 0 0 (by omega) (by omega) (by omega) (by omega)
          refine ⟨r, lo, ?_, ?_⟩
          · rw [fX7_worst_29, h.plies, Option.bind_some, if_neg q, h.left (by omega) hw3, Option.bind_some]
            simp only [fX7_worst_63, fX7_worst_77, fX7_worst_83, if_true, nI_s]
            rw [← h1, KVw]
            by_cases c : w = 2
            · rw [if_pos c, if_pos (show nI w = 2 by rw [c]; rfl)]
            · rw [if_neg c, if_neg (show ¬ nI w = 2 from nI_ne (b := 2) c (by omega) (by omega))]
          · rw [fX8_worst_30, if_neg q, if_pos rfl]
            simp only [fX8_worst_83, fX8_worst_85, nI_s]
            exact h2
      obtain ⟨r, lo, h1, h2⟩ := key
      exact ⟨r, row', nI l.length, lo, by simp only [fX7_worst, e10, if_false, nn0 c2.1, q2, if_true]; exact h1, by simp only [fX8_worst, h.is, e10, if_false, Option.bind_some, mIn2, if_pos c2, hl, ob3_some]; exact h2⟩
    · refine ⟨-2, m_row, m_wide, m_lost, ?_, by simp only [fX8_worst, h.is, e10, if_false, Option.bind_some, mIn2, if_neg c2, if_true]⟩
      simp only [fX7_worst, e10, if_false]
      exact out_lo le2_iff c2
  · obtain ⟨rfl, h2, h3, h4, h5, h6, h7, h8, h9⟩ := id hN
    exact ⟨-2, m_row, m_wide, m_lost, by simp only [fX7_worst, if_true], by simp only [fX8_worst, mIs0 (h9 3 (by omega)), Option.bind_some, if_true]⟩
