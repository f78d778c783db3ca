set_option maxHeartbeats 1000000 in
set_option maxRecDepth 100000 in
theorem cs_feed (t_tape_bytes : Nat → Int32) (t_tape_size : Int32) (m_tape : Nat → Int32) (m_taped : Int32) (v1 : Int32) (v2 : Int32) (v3 : Int32) (v4 : Int32) (v5 : Int32) (hT : PT t_tape_bytes t_tape_size m_tape m_taped) : ∃ (r : Int32) (o_t_tape_bytes : Nat → Int32) (o_t_tape_size : Int32) (o_m_tape : Nat → Int32) (o_m_taped : Int32), fX7_feed t_tape_bytes t_tape_size v1 v2 v3 v4 v5 = some (r, o_t_tape_bytes, o_t_tape_size) ∧ fX8_feed m_tape m_taped v1 v2 v3 v4 v5 = some (r, o_m_tape, o_m_taped) ∧ PT o_t_tape_bytes o_t_tape_size o_m_tape o_m_taped := by
  obtain ⟨n, hn, rfl, rfl, hb⟩ := id hT
  by_cases c : n + 20 ≤ 600
  · obtain ⟨b1, x1, y1, z1⟩ := add_one (b := t_tape_bytes) (s := n) (by omega) v1
    obtain ⟨b2, x2, y2, z2⟩ := add_one (b := b1) (s := n + 4) (by omega) v2
    obtain ⟨b3, x3, y3, z3⟩ := add_one (b := b2) (s := n + 4 + 4) (by omega) v3
    obtain ⟨b4, x4, y4, z4⟩ := add_one (b := b3) (s := n + 4 + 4 + 4) (by omega) v4
    obtain ⟨b5, x5, y5, z5⟩ := add_one (b := b4) (s := n + 4 + 4 + 4 + 4) (by omega) v5
    obtain ⟨tp2, m1, m2, m3⟩ := feed_loop (f := upd (upd (upd (upd (upd (fun _ => 0) ((0 : Int32).toNatClampNeg) v1) ((1 : Int32).toNatClampNeg) v2) ((2 : Int32).toNatClampNeg) v3) ((3 : Int32).toNatClampNeg) v4) ((4 : Int32).toNatClampNeg) v5) c 20 FU 0 m_tape (by omega) (FU_gt (by omega))
    refine ⟨nI (n + 20), b5, nI (n + 20), tp2, nI (n + 20), ?_, ?_, n + 20, by omega, rfl, rfl, fun k hk => ?_⟩
    · rw [fX7_feed, show (20 : Int32) = nI 20 from rfl, nI_add, show (600 : Int32) = nI 600 from rfl, if_le_y c (by omega), x1, ob2_some, x2, ob2_some, x3, ob2_some, x4, ob2_some, x5, ob2_some]
    · rw [fX8_feed, show (580 : Int32) = nI 580 from rfl, if_le_y (by omega) (by omega), lit_nI0, lit_nI1, lit_nI2, lit_nI3, lit_nI4, chkN (by omega) (by omega), chkN (by omega) (by omega), chkN (by omega) (by omega), chkN (by omega) (by omega), chkN (by omega) (by omega)]
      exact m1
    · by_cases d : k < n
      · rw [m2 k (by omega), y5 k (by omega), y4 k (by omega), y3 k (by omega), y2 k (by omega), y1 k d]
        exact hb k d
      · obtain ⟨i, rfl⟩ : ∃ i, k = n + i := ⟨k - n, by omega⟩
        have key : ∃ v : Int32, tp2 (n + i) = iushr v (nI (24 - 8 * (i % 4))) &&& 255 ∧ b5 (n + i) = BY v (i % 4) := by
          have q := m3 i (by omega) (by omega)
          have hi : i / 4 = 0 ∨ i / 4 = 1 ∨ i / 4 = 2 ∨ i / 4 = 3 ∨ i / 4 = 4 := by omega
          rcases hi with e | e | e | e | e
          · rw [e] at q
            refine ⟨v1, q, ?_⟩
            rw [y5 _ (by omega), y4 _ (by omega), y3 _ (by omega), y2 _ (by omega), show n + i = n + i % 4 by omega]
            exact z1 _ (by omega)
          · rw [e] at q
            refine ⟨v2, q, ?_⟩
            rw [y5 _ (by omega), y4 _ (by omega), y3 _ (by omega), show n + i = n + 4 + i % 4 by omega]
            exact z2 _ (by omega)
          · rw [e] at q
            refine ⟨v3, q, ?_⟩
            rw [y5 _ (by omega), y4 _ (by omega), show n + i = n + 4 + 4 + i % 4 by omega]
            exact z3 _ (by omega)
          · rw [e] at q
            refine ⟨v4, q, ?_⟩
            rw [y5 _ (by omega), show n + i = n + 4 + 4 + 4 + i % 4 by omega]
            exact z4 _ (by omega)
          · rw [e] at q
            refine ⟨v5, q, ?_⟩
            rw [show n + i = n + 4 + 4 + 4 + 4 + i % 4 by omega]
            exact z5 _ (by omega)
        obtain ⟨v, k1, k2⟩ := key
        obtain ⟨c', hc, e1, e2⟩ := byte_c (iushr v (nI (24 - 8 * (i % 4))))
        exact ⟨c', hc, by rw [k1, e1], by rw [k2]; exact e2⟩
  · refine ⟨-1, t_tape_bytes, nI n, m_tape, nI n, ?_, ?_, n, hn, rfl, rfl, hb⟩
    · rw [fX7_feed, show (20 : Int32) = nI 20 from rfl, nI_add, show (600 : Int32) = nI 600 from rfl, if_le_n (by omega) (by omega)]
    · rw [fX8_feed, show (580 : Int32) = nI 580 from rfl, if_le_n (by omega) (by omega)]
set_option maxHeartbeats 1000000 in
set_option maxRecDepth 100000 in
theorem cs_end (t_tape_size : Int32) (m_taped : Int32) (t_tape_bytes : Nat → Int32) (m_tape : Nat → Int32) (v1 : Int32) (hT : PT t_tape_bytes t_tape_size m_tape m_taped) : ∃ (r : Int32) (o_t_tape_size : Int32) (o_m_taped : Int32), fX7_end t_tape_size v1 = some (r, o_t_tape_size) ∧ fX8_end m_taped v1 = some (r, o_m_taped) ∧ PT t_tape_bytes o_t_tape_size m_tape o_m_taped := by
  obtain ⟨n, hn, rfl, rfl, hb⟩ := id hT
  have hin : fX8_in v1.toInt64 0 (nI n).toInt64 = if 0 ≤ v1.toInt ∧ v1.toInt ≤ (n : Int) then 1 else 0 := by rw [in_spec, Int32.toInt_toInt64, nI_int (by omega)]; rfl
  by_cases c : 0 ≤ v1.toInt ∧ v1.toInt ≤ (n : Int)
  · obtain ⟨k, rfl, hk, -⟩ := int_nat c.1
    have d1 : ¬ nI k < 0 := fun q => absurd ((lt0_iff _).mp q) (by omega)
    have d2 : nI k ≤ nI n := (nI_le_r (by omega)).mpr c.2
    exact ⟨nI k, nI k, nI k, by simp only [fX7_end, if_neg d1, if_pos d2], by simp only [fX8_end, hin, if_pos c, e10, if_false], k, by omega, rfl, rfl, fun j hj => hb j (by omega)⟩
  · by_cases c1 : v1.toInt < 0
    · have d1 : v1 < 0 := (lt0_iff _).mpr c1
      exact ⟨-1, nI n, nI n, by simp only [fX7_end, if_pos d1], by simp only [fX8_end, hin, if_neg c, if_true], hT⟩
    · have d1 : ¬ v1 < 0 := fun q => c1 ((lt0_iff _).mp q)
      have d2 : ¬ v1 ≤ nI n := fun q => absurd ((nI_le_r (by omega)).mp q) (by omega)
      exact ⟨-1, nI n, nI n, by simp only [fX7_end, if_neg d1, if_neg d2], by simp only [fX8_end, hin, if_neg c, if_true], hT⟩
set_option maxHeartbeats 1000000 in
set_option maxRecDepth 100000 in
theorem cs_plate (t_tape_bytes : Nat → Int32) (t_tape_size : Int32) (t_reader_draft_numbers : Nat → Int32) (t_reader_draft_cells : Nat → Int32) (t_reader_draft_rows : Nat → Int32) (t_reader_draft_sizes : Nat → Int32) (t_reader_draft_rooms : Nat → Int32) (t_reader_draft_told : Int32) (t_reader_draft_lines : Int32) (t_reader_draft_kinds : Int32) (t_reader_draft_acts : Int32) (t_reader_nameStarts : Nat → Int32) (t_reader_nameLengths : Nat → Int32) (t_reader_token : Int32) (t_reader_start : Int32) (t_reader_after : Int32) (t_reader_fault : Int32) (t_reader_place : Int32) (t_now_numbers : Nat → Int32) (t_now_cells : Nat → Int32) (t_now_rows : Nat → Int32) (t_now_sizes : Nat → Int32) (t_now_rooms : Nat → Int32) (t_now_told : Int32) (t_now_lines : Int32) (t_now_kinds : Int32) (t_now_acts : Int32) (t_choices_ready : Int32) (m_mem : Nat → Int32) (m_was : Nat → Int32) (m_acted : Int32) (m_tape : Nat → Int32) (m_taped : Int32) (m_faultKind : Int32) (m_faultPlace : Int32) (m_at : Int32) (m_begin : Int32) (m_token : Int32) (m_value : Int32) (m_bad : Int32) (m_nameAt : Nat → Int32) (m_nameLong : Nat → Int32) (m_past : Nat → Int32) (t_choices_rows_n : Nat) (t_choices_rows : Nat → Int64) (t_choices_size : Int32) (t_choices_pool : Int32) (t_choices_plies : Int32) (t_choices_room : Int32)  (hT : PT t_tape_bytes t_tape_size m_tape m_taped) (hF : PF t_reader_fault t_reader_place m_faultKind m_faultPlace) (hN : PN t_now_numbers t_now_cells t_now_rows t_now_sizes t_now_rooms t_now_told t_now_lines t_now_kinds t_now_acts m_mem m_acted m_past) (hO : PO t_now_cells t_choices_rows_n t_choices_rows t_choices_size t_choices_ready t_choices_pool t_choices_plies t_choices_room) : ∃ (r : Int32) (o_t_tape_size : Int32) (o_t_reader_draft_numbers : Nat → Int32) (o_t_reader_draft_cells : Nat → Int32) (o_t_reader_draft_rows : Nat → Int32) (o_t_reader_draft_sizes : Nat → Int32) (o_t_reader_draft_rooms : Nat → Int32) (o_t_reader_draft_told : Int32) (o_t_reader_draft_lines : Int32) (o_t_reader_draft_kinds : Int32) (o_t_reader_draft_acts : Int32) (o_t_reader_nameStarts : Nat → Int32) (o_t_reader_nameLengths : Nat → Int32) (o_t_reader_token : Int32) (o_t_reader_start : Int32) (o_t_reader_after : Int32) (o_t_reader_fault : Int32) (o_t_reader_place : Int32) (o_t_now_numbers : Nat → Int32) (o_t_now_cells : Nat → Int32) (o_t_now_rows : Nat → Int32) (o_t_now_sizes : Nat → Int32) (o_t_now_rooms : Nat → Int32) (o_t_now_told : Int32) (o_t_now_lines : Int32) (o_t_now_kinds : Int32) (o_t_now_acts : Int32) (o_t_choices_ready : Int32) (o_m_mem : Nat → Int32) (o_m_was : Nat → Int32) (o_m_acted : Int32) (o_m_taped : Int32) (o_m_faultKind : Int32) (o_m_faultPlace : Int32) (o_m_at : Int32) (o_m_begin : Int32) (o_m_token : Int32) (o_m_value : Int32) (o_m_bad : Int32) (o_m_nameAt : Nat → Int32) (o_m_nameLong : Nat → Int32), fX7_plate t_tape_bytes t_tape_size t_reader_draft_numbers t_reader_draft_cells t_reader_draft_rows t_reader_draft_sizes t_reader_draft_rooms t_reader_draft_told t_reader_draft_lines t_reader_draft_kinds t_reader_draft_acts t_reader_nameStarts t_reader_nameLengths t_reader_token t_reader_start t_reader_after t_reader_fault t_reader_place t_now_numbers t_now_cells t_now_rows t_now_sizes t_now_rooms t_now_told t_now_lines t_now_kinds t_now_acts t_choices_ready = some (r, o_t_tape_size, o_t_reader_draft_numbers, o_t_reader_draft_cells, o_t_reader_draft_rows, o_t_reader_draft_sizes, o_t_reader_draft_rooms, o_t_reader_draft_told, o_t_reader_draft_lines, o_t_reader_draft_kinds, o_t_reader_draft_acts, o_t_reader_nameStarts, o_t_reader_nameLengths, o_t_reader_token, o_t_reader_start, o_t_reader_after, o_t_reader_fault, o_t_reader_place, o_t_now_numbers, o_t_now_cells, o_t_now_rows, o_t_now_sizes, o_t_now_rooms, o_t_now_told, o_t_now_lines, o_t_now_kinds, o_t_now_acts, o_t_choices_ready) ∧ fX8_plate m_mem m_was m_acted m_tape m_taped m_faultKind m_faultPlace m_at m_begin m_token m_value m_bad m_nameAt m_nameLong = some (r, o_m_mem, o_m_was, o_m_acted, o_m_taped, o_m_faultKind, o_m_faultPlace, o_m_at, o_m_begin, o_m_token, o_m_value, o_m_bad, o_m_nameAt, o_m_nameLong) ∧ PT t_tape_bytes o_t_tape_size m_tape o_m_taped ∧ PF o_t_reader_fault o_t_reader_place o_m_faultKind o_m_faultPlace ∧ PN o_t_now_numbers o_t_now_cells o_t_now_rows o_t_now_sizes o_t_now_rooms o_t_now_told o_t_now_lines o_t_now_kinds o_t_now_acts o_m_mem o_m_acted m_past ∧ PO o_t_now_cells t_choices_rows_n t_choices_rows t_choices_size o_t_choices_ready t_choices_pool t_choices_plies t_choices_room := by
  obtain ⟨c, n, hs, hm, X⟩ := TX.of hT
  subst hs
  subst hm
  have hn := X.hn
  obtain ⟨mem0, was0, a1, a2, -⟩ := plate2 m_tape m_acted (nI n) m_faultKind m_faultPlace m_at m_begin m_token m_value m_bad m_nameAt m_nameLong 27 0 FU m_mem m_was (by omega) (FU_gt (by omega))
  rw [n0'] at a1
  obtain ⟨s, e, tk, af, mat, mtk, mv, y0, y1, y2, y3⟩ := X.next (p := 0) (by omega) t_reader_token t_reader_start m_begin m_token m_value
  rw [n0'] at y1 y2
  have D0 : DR 0 0 [] t_reader_draft_numbers t_reader_draft_cells (upd t_reader_draft_rows 0 0) (upd t_reader_draft_sizes 0 0) (upd t_reader_draft_rooms 0 0) mem0 :=
    ⟨⟨⟨by omega, fun _ => 0, fun k h => by omega, fun q h => by omega, fun t h => by omega⟩, (a2 1 (by omega) (by omega)).1, fun q h => by omega⟩, by decide, (fun t h => by cases h), upd_same _ _ _, upd_same _ _ _, (a2 2 (by omega) (by omega)).1, (a2 3 (by omega) (by omega)).1, (fun p h => by cases h), Or.inl ⟨rfl, rfl, rfl, upd_same _ _ _, fun k hk => (a2 k (by omega) hk).1⟩⟩
  have N0 : NM c n 0 (fun _ => 0) (fun _ => 0) t_reader_nameStarts t_reader_nameLengths m_nameAt m_nameLong := ⟨by omega, fun j hj => by omega⟩
  have hfo : fX0_forget t_choices_ready = some 0 := rfl
  rcases X.loop 0 (-1) 0 0 n s e 0 FU FU tk (nI s) af mat (nI s) mtk mv t_reader_draft_numbers t_reader_draft_cells (upd t_reader_draft_rows 0 0) (upd t_reader_draft_sizes 0 0) (upd t_reader_draft_rooms 0 0) mem0 t_reader_nameStarts t_reader_nameLengths m_nameAt m_nameLong 0 [] (fun _ => 0) (fun _ => 0) (by omega) (by omega) (FU_gt (by omega)) (FU_gt (by omega)) y3 D0 N0 with ⟨numbers', cells', rows', sizes', rooms', mem', ns', nl', na', ml', tk', st', af', mat', mbg', mtk', mv', kn', q', l', z0, z1, z2, z3⟩ | ⟨numbers', cells', rows', sizes', rooms', told', lines', kinds', acts', ns', nl', tk', st', af', k, pl, mem', mat', mbg', mtk', mv', na', ml', z1, z2⟩
  · rw [n0'] at z1
    refine ⟨nI q', 0, numbers', cells', rows', sizes', rooms', (if q' = 0 then 0 else 1), nI q', nI kn', 0, ns', nl', tk', st', af', 0, -1, numbers', cells', rows', sizes', rooms', (if q' = 0 then 0 else 1), nI q', nI kn', 0, 0, mem', was0, 0, 0, 0, -1, mat', mbg', mtk', mv', 0, na', ml', ?_, ?_, ⟨0, by omega, rfl, rfl, fun k h => by omega⟩, ⟨rfl, rfl⟩, z3.now z0 hn m_past, ⟨hO.1, Or.inl rfl⟩⟩
    · rw [fX7_plate, fX2_read, fX1_clear, sob7, y1, sob3, z1, sob17, if_neg i10, fX1_copy, zb_in (by by_cases w : q' = 0; exact Or.inl (if_pos w); exact Or.inr (if_neg w)), sob9, hfo]
      rfl
    · rw [fX8_plate, a1, fX8_plate_33, y2, sob4, fX8_readsAll, z2, sob10, if_pos rfl, z3.2.2.2.2.2.2.1]
  · rw [n0'] at z1
    obtain ⟨mem2, u1, u2, -⟩ := plate75 was0 m_acted 0 k pl mat' mbg' mtk' mv' 1 na' ml' 27 0 FU mem' (by omega) (FU_gt (by omega))
    rw [n0'] at u1
    refine ⟨-4, 0, numbers', cells', rows', sizes', rooms', told', lines', kinds', acts', ns', nl', tk', st', af', k, pl, t_now_numbers, t_now_cells, t_now_rows, t_now_sizes, t_now_rooms, t_now_told, t_now_lines, t_now_kinds, t_now_acts, t_choices_ready, mem2, was0, m_acted, 0, k, pl, mat', mbg', mtk', mv', 1, na', ml', ?_, ?_, ⟨0, by omega, rfl, rfl, fun k h => by omega⟩, ⟨rfl, rfl⟩, hN.congr (fun q hq => (u2 q (by omega) hq).trans (a2 q (by omega) hq).2), hO⟩
    · rw [fX7_plate, fX2_read, fX1_clear, sob7, y1, sob3, z1, sob17, if_pos rfl]
    · rw [fX8_plate, a1, fX8_plate_33, y2, sob4, fX8_readsAll, z2, sob10, if_neg i10, u1]
set_option maxHeartbeats 1000000 in
set_option maxRecDepth 100000 in
theorem cs_fault (t_reader_fault : Int32) (t_reader_place : Int32) (m_faultKind : Int32) (m_faultPlace : Int32) (v1 : Int32) (hF : PF t_reader_fault t_reader_place m_faultKind m_faultPlace) : ∃ (r : Int32), fX7_fault t_reader_fault t_reader_place v1 = r ∧ fX8_fault m_faultKind m_faultPlace v1 = r := by
  obtain ⟨rfl, rfl⟩ := hF
  exact ⟨_, rfl, rfl⟩
set_option maxHeartbeats 1000000 in
set_option maxRecDepth 100000 in
theorem cs_count (t_tape_size : Int32) (t_now_sizes : Nat → Int32) (t_now_rooms : Nat → Int32) (t_now_lines : Int32) (t_now_kinds : Int32) (t_now_acts : Int32) (m_mem : Nat → Int32) (m_acted : Int32) (m_taped : Int32) (t_now_numbers : Nat → Int32) (t_now_cells : Nat → Int32) (t_now_rows : Nat → Int32) (t_now_told : Int32) (m_past : Nat → Int32) (t_tape_bytes : Nat → Int32) (m_tape : Nat → Int32) (v1 : Int32) (hN : PN t_now_numbers t_now_cells t_now_rows t_now_sizes t_now_rooms t_now_told t_now_lines t_now_kinds t_now_acts m_mem m_acted m_past) (hT : PT t_tape_bytes t_tape_size m_tape m_taped) : ∃ (r : Int32), fX7_count t_tape_size t_now_sizes t_now_rooms t_now_lines t_now_kinds t_now_acts v1 = some r ∧ fX8_count m_mem m_acted m_taped v1 = some r := by
  obtain ⟨n, hn, rfl, rfl, -⟩ := hT
  have key : ∀ (x0 x1 x2 x3 x4 x5 : Int32), ∃ r : Int32, (if v1 = 0 then some x0 else (if v1 = 1 then some x1 else (if v1 = 2 then some x2 else (if v1 = 3 then some x3 else (if v1 = 4 then some x4 else (if v1 = 5 then some x5 else some (-1))))))) = some r := by
    intro x0 x1 x2 x3 x4 x5
    repeat' split
    all_goals exact ⟨_, rfl⟩
  rcases hN with hN | hN
  · obtain ⟨kn, a, ln, rfl, rfl, rfl, rfl, ha, rfl, hln1, hln2, hPl, hpast, hs⟩ := id hN
    obtain ⟨l, rm, hl8, hlt, hrm1, hrm8, hrow, hsize, hroom, m0, m1, m2, m3, mk, mt⟩ := id hs
    obtain ⟨r, hr⟩ := key (nI rm) (nI kn) (nI l.length) (nI a) (nI ln) (nI n)
    exact ⟨r, by simp only [fX7_count, cRoom ha, cPlies ha, hroom, hsize, Option.bind_some]; exact hr, by simp only [fX8_count, m0, m1, m2, m3]; exact hr⟩
  · obtain ⟨-, rfl, rfl, rfl, rfl, h6, h7, h8, h9⟩ := id hN
    obtain ⟨r, hr⟩ := key 0 0 0 0 0 (nI n)
    have p1 : fX1_roomNow t_now_rooms 0 = some 0 := by rw [lit_nI0, cRoom (by omega), h8]; rfl
    have p2 : fX1_plies t_now_sizes 0 = some 0 := by rw [lit_nI0, cPlies (by omega), h7]; rfl
    exact ⟨r, by simp only [fX7_count, p1, p2, Option.bind_some]; exact hr, by simp only [fX8_count, h9 0 (by omega), h9 1 (by omega), h9 2 (by omega), h9 3 (by omega)]; exact hr⟩
set_option maxHeartbeats 1000000 in
set_option maxRecDepth 100000 in
theorem cs_kind (t_now_numbers : Nat → Int32) (t_now_rows : Nat → Int32) (t_now_sizes : Nat → Int32) (t_now_told : Int32) (t_now_kinds : Int32) (t_now_acts : Int32) (m_mem : Nat → Int32) (t_now_cells : Nat → Int32) (t_now_rooms : Nat → Int32) (t_now_lines : Int32) (m_acted : Int32) (m_past : Nat → Int32) (v1 : Int32) (v2 : Int32) (hN : PN t_now_numbers t_now_cells t_now_rows t_now_sizes t_now_rooms t_now_told t_now_lines t_now_kinds t_now_acts m_mem m_acted m_past) : ∃ (r : Int32), fX7_kind t_now_numbers t_now_rows t_now_sizes t_now_told t_now_kinds t_now_acts v1 v2 = some r ∧ fX8_kind m_mem v1 v2 = some r := by
  rcases hN with hN | hN
  · obtain ⟨kn, a, l, rm, nb, rfl, rfl, rfl, rfl, h⟩ := hN.view
    by_cases c1 : 0 ≤ v1.toInt ∧ v1.toInt < kn
    · by_cases c2 : 0 ≤ v2.toInt ∧ v2.toInt ≤ 5
      · obtain ⟨i, rfl, hi, -⟩ := int_nat c1.1
        obtain ⟨j, rfl, hj, -⟩ := int_nat c2.1
        have k3 := h.kn3
        have q5 : (nI j ≤ 5) = True := eq_true ((le5_iff _).mpr c2.2)
        by_cases c5 : j = 5
        · subst c5
          exact ⟨nI (kc l i), by simp only [fX7_kind, h.ckind, if_pos c1, nn0 c2.1, q5, e10, if_false, if_true]; rw [if_pos (show nI 5 = 5 from rfl), h.ofKind (by omega), Option.bind_some], by simp only [fX8_kind, h.mkind, if_pos c1, mIn5, if_pos c2, Option.bind_some, e10, if_false]; rw [if_pos (show (5 : Int32) ≤ nI 5 by decide)]; exact (kind_loop h.R h.m2 h.mt (t := i) (by omega) l.length FU 0 0 (by omega) (FU_gt (by have := h.len; omega))).trans (by rw [Nat.zero_add]; rfl)⟩
        · have e1 : (5 : Int32) * nI i + nI j = nI (5 * i + j) := by rw [lit_nI5, nI_mul, nI_add]
          have e2 : (4 : Int32) + 5 * nI i + nI j = nI (4 + (5 * i + j)) := by rw [lit_nI5, lit_nI4, nI_mul, nI_add, nI_add, Nat.add_assoc]
          exact ⟨i32 (nb (5 * i + j)), by simp only [fX7_kind, h.ckind, if_pos c1, nn0 c2.1, q5, e10, if_false, if_true]; rw [if_neg (show ¬ nI j = (5 : Int32) from nI_ne (b := 5) c5 (by omega) (by omega)), cNumber h (by omega) (by omega), Option.bind_some], by simp only [fX8_kind, h.mkind, if_pos c1, mIn5, if_pos c2, Option.bind_some, e10, if_false, e2]; rw [if_neg (fun q => by have := (nI_le' (a := 5) (by omega) (by omega)).mp q; omega), chkN (by omega) (by omega), nI_clamp' (by omega), h.mk.2 _ (by omega)]⟩
      · refine ⟨-2, ?_, by simp only [fX8_kind, h.mkind, if_pos c1, mIn5, if_neg c2, Option.bind_some, e10, if_false, if_true]⟩
        simp only [fX7_kind, h.ckind, if_pos c1, e10, if_false]
        exact out_lo le5_iff c2
    · exact ⟨-2, by simp only [fX7_kind, h.ckind, if_neg c1, if_true], by simp only [fX8_kind, h.mkind, if_neg c1, Option.bind_some, if_true]⟩
  · obtain ⟨rfl, h2, h3, h4, h5, h6, h7, h8, h9⟩ := id hN
    exact ⟨-2, by simp only [fX7_kind, fX7_isKind, if_true], by simp only [fX8_kind, mIsKind (show m_mem 1 = nI 0 from h9 1 (by omega)) (show 0 < 1000 by omega), if_neg (show ¬ (0 ≤ v1.toInt ∧ v1.toInt < ((0 : Nat) : Int)) by omega), Option.bind_some, if_true]⟩
set_option maxHeartbeats 1000000 in
set_option maxRecDepth 100000 in
theorem cs_ply (t_now_rows : Nat → Int32) (t_now_sizes : Nat → Int32) (t_now_told : Int32) (t_now_acts : Int32) (m_mem : Nat → Int32) (t_now_numbers : Nat → Int32) (t_now_cells : Nat → Int32) (t_now_rooms : Nat → Int32) (t_now_lines : Int32) (t_now_kinds : Int32) (m_acted : Int32) (m_past : Nat → Int32) (v1 : Int32) (v2 : Int32) (hN : PN t_now_numbers t_now_cells t_now_rows t_now_sizes t_now_rooms t_now_told t_now_lines t_now_kinds t_now_acts m_mem m_acted m_past) : ∃ (r : Int32), fX7_ply t_now_rows t_now_sizes t_now_told t_now_acts v1 v2 = some r ∧ fX8_ply m_mem v1 v2 = some r := by
  rcases hN with hN | hN
  · obtain ⟨kn, a, l, rm, nb, rfl, rfl, rfl, rfl, h⟩ := hN.view
    by_cases c1 : 0 ≤ v1.toInt ∧ v1.toInt < l.length
    · obtain ⟨i, rfl, hi, -⟩ := int_nat c1.1
      have l8 := h.len
      have ki : i < 8 := by omega
      by_cases c2 : 0 ≤ v2.toInt ∧ v2.toInt ≤ 4
      · obtain ⟨j, rfl, hj, -⟩ := int_nat c2.1
        simp only [fX7_ply, h.cply, if_pos c1, e10, if_false, Option.bind_some, h.type ki, h.plies, fX8_ply, h.mply, mIn4, if_pos c2, chk19 ki, clamp19 ki, h.mt i (by omega), h.m2, fX3_farOf, fX3_thickOf]
        have hj5 : j = 0 ∨ j = 1 ∨ j = 2 ∨ j = 3 ∨ j = 4 := by omega
        rcases hj5 with rfl | rfl | rfl | rfl | rfl <;> exact ⟨_, rfl, rfl⟩
      · refine ⟨-2, ?_, by simp only [fX8_ply, h.mply, if_pos c1, e10, if_false, Option.bind_some, mIn4, if_neg c2, if_true]⟩
        simp only [fX7_ply, h.cply, if_pos c1, e10, if_false, Option.bind_some, h.type ki, h.plies]
        have z0 : ∀ k : Nat, k < 5 → ¬ v2 = nI k := by
          intro k hk q
          apply c2
          rw [q, nI_int (by omega)]
          omega
        rw [if_neg (show ¬ v2 = (0 : Int32) from z0 0 (by omega)), if_neg (show ¬ v2 = (1 : Int32) from z0 1 (by omega)), if_neg (show ¬ v2 = (2 : Int32) from z0 2 (by omega)), if_neg (show ¬ v2 = (3 : Int32) from z0 3 (by omega)), if_neg (show ¬ v2 = (4 : Int32) from z0 4 (by omega))]
    · exact ⟨-2, by simp only [fX7_ply, h.cply, if_neg c1, if_true, Option.bind_some], by simp only [fX8_ply, h.mply, if_neg c1, Option.bind_some, if_true]⟩
  · obtain ⟨rfl, h2, h3, h4, h5, h6, h7, h8, h9⟩ := id hN
    exact ⟨-2, by simp only [fX7_ply, fX7_isPly, if_true, Option.bind_some], by simp only [fX8_ply, mIsPly (show m_mem 2 = nI 0 from h9 2 (by omega)) (show 0 < 1000 by omega), if_neg (show ¬ (0 ≤ v1.toInt ∧ v1.toInt < ((0 : Nat) : Int)) by omega), Option.bind_some, if_true]⟩
set_option maxHeartbeats 1000000 in
set_option maxRecDepth 100000 in
theorem cs_stiff (t_now_cells : Nat → Int32) (t_now_rows : Nat → Int32) (t_now_sizes : Nat → Int32) (t_now_told : Int32) (t_now_acts : Int32) (m_mem : Nat → Int32) (m_row : Nat → Int32) (m_wide : Int32) (m_lost : Int32) (t_now_numbers : Nat → Int32) (t_now_rooms : Nat → Int32) (t_now_lines : Int32) (t_now_kinds : Int32) (m_acted : Int32) (m_past : Nat → Int32) (v1 : Int32) (v2 : Int32) (v3 : Int32) (hN : PN t_now_numbers t_now_cells t_now_rows t_now_sizes t_now_rooms t_now_told t_now_lines t_now_kinds t_now_acts m_mem m_acted m_past) : ∃ (r : Int64) (o_m_row : Nat → Int32) (o_m_wide : Int32) (o_m_lost : Int32), fX7_stiff t_now_cells t_now_rows t_now_sizes t_now_told t_now_acts v1 v2 v3 = some r ∧ fX8_stiff m_mem m_row m_wide m_lost v1 v2 v3 = some (r, o_m_row, o_m_wide, o_m_lost) := by
  rcases hN with hN | hN
  · obtain ⟨kn, a, l, rm, nb, rfl, rfl, rfl, rfl, h⟩ := hN.view
    by_cases c1 : 0 ≤ v1.toInt ∧ v1.toInt ≤ 2
    · by_cases c2 : 0 ≤ v2.toInt ∧ v2.toInt ≤ 2
      · by_cases c3 : 0 ≤ v3.toInt ∧ v3.toInt ≤ 2
        · obtain ⟨row', hl, hr⟩ := h.lays m_row m_wide m_lost
          obtain ⟨w, rfl, hw, -⟩ := int_nat c1.1
          obtain ⟨i, rfl, hi, -⟩ := int_nat c2.1
          obtain ⟨j, rfl, hj, -⟩ := int_nat c3.1
          have e : 3 * nI i + nI j = nI (3 * i + j) := by rw [lit_nI3, nI_mul, nI_add]
          have q1 := ax_lo c1
          have q2 := ax_hi c1
          exact ⟨_, row', nI l.length, 0, by simp only [fX7_stiff, e10, if_false, q1, q2, cAxis, if_pos c2, if_pos c3, e]; rw [lit_nI0, h.total (by omega) (by omega) (by omega), Option.bind_some], by simp only [fX8_stiff, h.is, Option.bind_some, mIn2, if_pos c1, if_pos c2, if_pos c3, e10, if_false, hl, ob3_some]; rw [lit_nI0, h.sum h.R h.lt hr (by omega) (by omega) (by omega) (by omega), Option.bind_some]⟩
        · have q1 := ax_lo c1
          have q2 := ax_hi c1
          exact ⟨_, m_row, m_wide, m_lost, by simp only [fX7_stiff, e10, if_false, q1, q2, cAxis, if_pos c2, if_neg c3, if_true]; rfl, by simp only [fX8_stiff, h.is, Option.bind_some, mIn2, if_pos c1, if_pos c2, if_neg c3, e10, if_false, if_true]⟩
      · have q1 := ax_lo c1
        have q2 := ax_hi c1
        exact ⟨_, m_row, m_wide, m_lost, by simp only [fX7_stiff, e10, if_false, q1, q2, cAxis, if_neg c2, if_true]; rfl, by simp only [fX8_stiff, h.is, Option.bind_some, mIn2, if_pos c1, if_neg c2, e10, if_false, if_true]⟩
    · refine ⟨-9223372036854775808, m_row, m_wide, m_lost, ?_, by simp only [fX8_stiff, h.is, Option.bind_some, mIn2, if_neg c1, e10, if_false, if_true]⟩
      simp only [fX7_stiff, e10, if_false]
      exact ax_out c1
  · obtain ⟨rfl, h2, h3, h4, h5, h6, h7, h8, h9⟩ := id hN
    exact ⟨-9223372036854775808, m_row, m_wide, m_lost, by simp only [fX7_stiff, if_true], by simp only [fX8_stiff, mIs0 (h9 3 (by omega)), Option.bind_some, if_true]⟩
set_option maxHeartbeats 1000000 in
set_option maxRecDepth 100000 in
theorem cs_even (t_now_cells : Nat → Int32) (t_now_rows : Nat → Int32) (t_now_sizes : Nat → Int32) (t_now_told : Int32) (t_now_kinds : Int32) (t_now_acts : Int32) (m_mem : Nat → Int32) (m_row : Nat → Int32) (m_wide : Int32) (m_lost : Int32) (t_now_numbers : Nat → Int32) (t_now_rooms : Nat → Int32) (t_now_lines : Int32) (m_acted : Int32) (m_past : Nat → Int32)  (hN : PN t_now_numbers t_now_cells t_now_rows t_now_sizes t_now_rooms t_now_told t_now_lines t_now_kinds t_now_acts m_mem m_acted m_past) : ∃ (r : Int32) (o_m_row : Nat → Int32) (o_m_wide : Int32) (o_m_lost : Int32), fX7_even t_now_cells t_now_rows t_now_sizes t_now_told t_now_kinds t_now_acts = some r ∧ fX8_even m_mem m_row m_wide m_lost = some (r, o_m_row, o_m_wide, o_m_lost) := by
  rcases hN with hN | hN
  · obtain ⟨kn, a, l, rm, nb, rfl, rfl, rfl, rfl, h⟩ := hN.view
    obtain ⟨row', hl, hr⟩ := h.lays m_row m_wide m_lost
    have l8 := h.len
    have hb : fX1_isBalanced t_now_rows t_now_sizes (nI kn) (nI a) = some (b32 (balL l 3 0)) := by
      have q := h.balC_loop kn FU 0 (by omega) (FU_gt (by have := h.kn3; omega))
      rw [bal_kn h.kn3 h.lt] at q
      exact q
    have hw := h.warpM h.R h.lt hr (g := 0) (by omega)
    have ht := h.twistM h.R h.lt hr (g := 0) (by omega)
    have hw0 := h.wz0 h.R h.lt
    have ht0 := h.tz0 h.R h.lt
    simp only [fX7_even, e10, if_false, h.row, h.plies, Option.bind_some, h.shape h.R h.lt, hb, fX8_even, h.is, hl, ob3_some, mMir h.R hr, fX8_even_26, fX8_even_40, fX8_even_55, show fX8_warpHere m_mem row' (nI l.length) 0 = _ from hw, show fX8_twistHere m_mem row' (nI l.length) 0 = _ from ht, mBal h.R hr, hw0, ht0, shp]
    cases isMir l <;> cases isFla (ceQ nb) l <;> cases isStr (ceQ nb) l <;> cases balL l 3 0 <;> exact ⟨_, row', nI l.length, 0, rfl, rfl⟩
  · obtain ⟨rfl, h2, h3, h4, h5, h6, h7, h8, h9⟩ := id hN
    exact ⟨-2, m_row, m_wide, m_lost, by simp only [fX7_even, if_true], by simp only [fX8_even, mIs0 (h9 3 (by omega)), Option.bind_some, if_true]⟩
set_option maxHeartbeats 1000000 in
set_option maxRecDepth 100000 in
theorem cs_warp (t_now_cells : Nat → Int32) (t_now_rows : Nat → Int32) (t_now_sizes : Nat → Int32) (t_now_told : Int32) (t_now_acts : Int32) (m_mem : Nat → Int32) (m_row : Nat → Int32) (m_wide : Int32) (m_lost : Int32) (t_now_numbers : Nat → Int32) (t_now_rooms : Nat → Int32) (t_now_lines : Int32) (t_now_kinds : Int32) (m_acted : Int32) (m_past : Nat → Int32)  (hN : PN t_now_numbers t_now_cells t_now_rows t_now_sizes t_now_rooms t_now_told t_now_lines t_now_kinds t_now_acts m_mem m_acted m_past) : ∃ (r : Int64) (o_m_row : Nat → Int32) (o_m_wide : Int32) (o_m_lost : Int32), fX7_warp t_now_cells t_now_rows t_now_sizes t_now_told t_now_acts = some r ∧ fX8_warp m_mem m_row m_wide m_lost = some (r, o_m_row, o_m_wide, o_m_lost) := by
  rcases hN with hN | hN
  · obtain ⟨kn, a, l, rm, nb, rfl, rfl, rfl, rfl, h⟩ := hN.view
    obtain ⟨row', hl, hr⟩ := h.lays m_row m_wide m_lost
    exact ⟨_, row', nI l.length, 0, by simp only [fX7_warp, e10, if_false]; rw [lit_nI0, h.warpC (by omega), Option.bind_some], by simp only [fX8_warp, hl, ob3_some, h.is, Option.bind_some, e10, if_false]; rw [lit_nI0, h.warpM h.R h.lt hr (by omega), Option.bind_some]⟩
  · obtain ⟨rfl, h2, h3, h4, h5, h6, h7, h8, h9⟩ := id hN
    obtain ⟨row', hl, hr⟩ := mLays (mem := m_mem) (l := []) (by decide) (h9 2 (by omega)) (fun p hp => absurd hp (Nat.not_lt_zero p)) m_row m_wide m_lost
    exact ⟨-2, row', nI 0, 0, by simp only [fX7_warp, if_true], by simp only [fX8_warp, hl, ob3_some, mIs0 (h9 3 (by omega)), Option.bind_some, if_true]; rfl⟩
set_option maxHeartbeats 1000000 in
set_option maxRecDepth 100000 in
theorem cs_twist (t_now_cells : Nat → Int32) (t_now_rows : Nat → Int32) (t_now_sizes : Nat → Int32) (t_now_told : Int32) (t_now_acts : Int32) (m_mem : Nat → Int32) (m_row : Nat → Int32) (m_wide : Int32) (m_lost : Int32) (t_now_numbers : Nat → Int32) (t_now_rooms : Nat → Int32) (t_now_lines : Int32) (t_now_kinds : Int32) (m_acted : Int32) (m_past : Nat → Int32)  (hN : PN t_now_numbers t_now_cells t_now_rows t_now_sizes t_now_rooms t_now_told t_now_lines t_now_kinds t_now_acts m_mem m_acted m_past) : ∃ (r : Int64) (o_m_row : Nat → Int32) (o_m_wide : Int32) (o_m_lost : Int32), fX7_twist t_now_cells t_now_rows t_now_sizes t_now_told t_now_acts = some r ∧ fX8_twist m_mem m_row m_wide m_lost = some (r, o_m_row, o_m_wide, o_m_lost) := by
  rcases hN with hN | hN
  · obtain ⟨kn, a, l, rm, nb, rfl, rfl, rfl, rfl, h⟩ := hN.view
    obtain ⟨row', hl, hr⟩ := h.lays m_row m_wide m_lost
    exact ⟨_, row', nI l.length, 0, by simp only [fX7_twist, e10, if_false]; rw [h.twistC, Option.bind_some], by simp only [fX8_twist, hl, ob3_some, h.is, Option.bind_some, e10, if_false]; rw [lit_nI0, h.twistM h.R h.lt hr (by omega), Option.bind_some]⟩
  · obtain ⟨rfl, h2, h3, h4, h5, h6, h7, h8, h9⟩ := id hN
    obtain ⟨row', hl, hr⟩ := mLays (mem := m_mem) (l := []) (by decide) (h9 2 (by omega)) (fun p hp => absurd hp (Nat.not_lt_zero p)) m_row m_wide m_lost
    exact ⟨-2, row', nI 0, 0, by simp only [fX7_twist, if_true], by simp only [fX8_twist, hl, ob3_some, mIs0 (h9 3 (by omega)), Option.bind_some, if_true]; rfl⟩
set_option maxHeartbeats 1000000 in
set_option maxRecDepth 100000 in
theorem cs_run (t_now_rows : Nat → Int32) (t_now_sizes : Nat → Int32) (t_now_told : Int32) (t_now_acts : Int32) (m_mem : Nat → Int32) (m_row : Nat → Int32) (m_wide : Int32) (m_lost : Int32) (t_now_numbers : Nat → Int32) (t_now_cells : Nat → Int32) (t_now_rooms : Nat → Int32) (t_now_lines : Int32) (t_now_kinds : Int32) (m_acted : Int32) (m_past : Nat → Int32) (v1 : Int32) (hN : PN t_now_numbers t_now_cells t_now_rows t_now_sizes t_now_rooms t_now_told t_now_lines t_now_kinds t_now_acts m_mem m_acted m_past) : ∃ (r : Int32) (o_m_row : Nat → Int32) (o_m_wide : Int32) (o_m_lost : Int32), fX7_run t_now_rows t_now_sizes t_now_told t_now_acts v1 = some r ∧ fX8_run m_mem m_row m_wide m_lost v1 = some (r, o_m_row, o_m_wide, o_m_lost) := by
  rcases hN with hN | hN
  · obtain ⟨kn, a, l, rm, nb, rfl, rfl, rfl, rfl, h⟩ := hN.view
    have l8 := h.len
    by_cases c1 : 0 ≤ v1.toInt ∧ v1.toInt ≤ 1
    · obtain ⟨row', e1, e2⟩ := h.lays m_row m_wide m_lost
      have q1 : (v1 ≤ 1) = True := eq_true ((le1_iff _).mpr c1.2)
      by_cases c2 : v1 = 0
      · exact ⟨nI (lgr l), row', nI l.length, 0, by simp only [fX7_run, e10, if_false, nn0 c1.1, q1, if_true, h.row, h.plies, Option.bind_some, cRun h.R, if_pos c2], by simp only [fX8_run, h.is, Option.bind_some, e10, if_false, mIn1, if_pos c1, e1, ob3_some, mRun h.R e2, if_pos c2]⟩
      · have x1 := cFirst_loop h.R (lgr_le l8) l.length FU 0 0 (by omega) (FU_gt (by omega)) (by omega)
        have y1 := mFirst_loop h.R e2 (lost := 0) (lgr_le l8) l.length FU 0 (by omega) (FU_gt (by omega))
        have s1 := run_same _ (eb_lt l) (eb_0 l) l.length (by omega)
        have s2 : frB (eb l) (lgr l) l.length 0 0 = fmB (eb l) l.length (lgr l) l.length 0 := s1
        refine ⟨rI (fmB (eb l) l.length (lgr l) l.length 0), row', nI l.length, 0, ?_, ?_⟩
        · simp only [fX7_run, e10, if_false, nn0 c1.1, q1, if_true, h.row, h.plies, Option.bind_some, cRun h.R, if_neg c2, fX3_firstRun]
          rw [← s2, show fX3_firstRun_5 FU (pk l) (nI l.length) (nI (lgr l)) 0 0 = _ from x1, Option.bind_some]
        · simp only [fX8_run, h.is, Option.bind_some, e10, if_false, mIn1, if_pos c1, e1, ob3_some, mRun h.R e2, if_neg c2]
          exact y1
    · refine ⟨-2, m_row, m_wide, m_lost, ?_, by simp only [fX8_run, h.is, Option.bind_some, e10, if_false, mIn1, if_neg c1, if_true]⟩
      simp only [fX7_run, e10, if_false]
      exact out_lo le1_iff c1
  · obtain ⟨rfl, h2, h3, h4, h5, h6, h7, h8, h9⟩ := id hN
    exact ⟨-2, m_row, m_wide, m_lost, by simp only [fX7_run, if_true], by simp only [fX8_run, mIs0 (h9 3 (by omega)), Option.bind_some, if_true]⟩
set_option maxHeartbeats 1000000 in
set_option maxRecDepth 100000 in
theorem cs_likes (t_now_rows : Nat → Int32) (t_now_sizes : Nat → Int32) (t_now_told : Int32) (t_now_acts : Int32) (m_mem : Nat → Int32) (m_row : Nat → Int32) (m_wide : Int32) (m_lost : Int32) (t_now_numbers : Nat → Int32) (t_now_cells : Nat → Int32) (t_now_rooms : Nat → Int32) (t_now_lines : Int32) (t_now_kinds : Int32) (m_acted : Int32) (m_past : Nat → Int32)  (hN : PN t_now_numbers t_now_cells t_now_rows t_now_sizes t_now_rooms t_now_told t_now_lines t_now_kinds t_now_acts m_mem m_acted m_past) : ∃ (r : Int32) (o_m_row : Nat → Int32) (o_m_wide : Int32) (o_m_lost : Int32), fX7_likes t_now_rows t_now_sizes t_now_told t_now_acts = some r ∧ fX8_likes m_mem m_row m_wide m_lost = some (r, o_m_row, o_m_wide, o_m_lost) := by
  rcases hN with hN | hN
  · obtain ⟨kn, a, l, rm, nb, rfl, rfl, rfl, rfl, h⟩ := hN.view
    obtain ⟨row', hl, hr⟩ := h.lays m_row m_wide m_lost
    exact ⟨nI (likesN l), row', nI l.length, 0, by simp only [fX7_likes, e10, if_false, h.row, h.plies, Option.bind_some, likes_pk h.R], by simp only [fX8_likes, hl, ob3_some, h.is, Option.bind_some, e10, if_false, mLikes h.R hr]⟩
  · obtain ⟨rfl, h2, h3, h4, h5, h6, h7, h8, h9⟩ := id hN
    obtain ⟨row', hl, hr⟩ := mLays (mem := m_mem) (l := []) (by decide) (h9 2 (by omega)) (fun p hp => absurd hp (Nat.not_lt_zero p)) m_row m_wide m_lost
    exact ⟨-2, row', nI 0, 0, by simp only [fX7_likes, if_true], by simp only [fX8_likes, hl, ob3_some, mIs0 (h9 3 (by omega)), Option.bind_some, if_true]; rfl⟩
set_option maxHeartbeats 1000000 in
set_option maxRecDepth 100000 in
theorem cs_strain (t_now_cells : Nat → Int32) (t_now_rows : Nat → Int32) (t_now_sizes : Nat → Int32) (t_now_told : Int32) (t_now_acts : Int32) (t_stress_cells : Nat → Int64) (t_stress_parts : Nat → Int64) (t_stress_det : Int64) (m_mem : Nat → Int32) (m_row : Nat → Int32) (m_wide : Int32) (m_lost : Int32) (m_strain : Nat → Int64) (m_det : Int64) (t_now_numbers : Nat → Int32) (t_now_rooms : Nat → Int32) (t_now_lines : Int32) (t_now_kinds : Int32) (m_acted : Int32) (m_past : Nat → Int32) (v1 : Int32) (v2 : Int32) (v3 : Int32) (v4 : Int32) (v5 : Int32) (hN : PN t_now_numbers t_now_cells t_now_rows t_now_sizes t_now_rooms t_now_told t_now_lines t_now_kinds t_now_acts m_mem m_acted m_past) : ∃ (r : Int64) (o_t_stress_cells : Nat → Int64) (o_t_stress_parts : Nat → Int64) (o_t_stress_det : Int64) (o_m_row : Nat → Int32) (o_m_wide : Int32) (o_m_lost : Int32) (o_m_strain : Nat → Int64) (o_m_det : Int64), fX7_strain t_now_cells t_now_rows t_now_sizes t_now_told t_now_acts t_stress_cells t_stress_parts t_stress_det v1 v2 v3 v4 v5 = some (r, o_t_stress_cells, o_t_stress_parts, o_t_stress_det) ∧ fX8_strain m_mem m_row m_wide m_lost m_strain m_det v1 v2 v3 v4 v5 = some (r, o_m_row, o_m_wide, o_m_lost, o_m_strain, o_m_det) := by
  rcases hN with hN | hN
  · obtain ⟨kn, a, l, rm, nb, rfl, rfl, rfl, rfl, h⟩ := hN.view
    by_cases c1 : ld v1 ∧ ld v2 ∧ ld v3
    · have hL := loads_y c1.1 c1.2.1 c1.2.2
      by_cases c2 : 0 ≤ v4.toInt ∧ v4.toInt ≤ 2
      · by_cases c3 : 0 ≤ v5.toInt ∧ v5.toInt ≤ 1
        · obtain ⟨i, rfl, hi, -⟩ := int_nat c2.1
          obtain ⟨r, cl, p, d, row', wide', lost', st', dt', x1, y1⟩ := h.yield (w := 0) (i := i) (by omega) (by omega) c3 c1.1 c1.2.1 c1.2.2 t_stress_cells t_stress_parts t_stress_det m_row m_wide m_lost m_strain m_det
          have q5 : (v5 ≤ 1) = True := eq_true ((le1_iff _).mpr c3.2)
          refine ⟨r, cl, p, d, row', wide', lost', st', dt', ?_, ?_⟩
          · simp only [fX7_strain, hL.1, e10, if_false, cAxis, if_pos c2, nn0 c3.1, q5, if_true]
            rw [lit_nI0, x1, ob4_some]
          · rw [fX8_strain, lit_nI0, y1, ob6_some]
        · refine ⟨-9223372036854775808, t_stress_cells, t_stress_parts, t_stress_det, m_row, m_wide, m_lost, m_strain, m_det, ?_, by simp only [fX8_strain, fX8_strained, h.is, Option.bind_some, hL.2, e10, if_false, mIn2, if_pos c2, mIn1, if_neg c3, if_true, ob6_some]⟩
          simp only [fX7_strain, hL.1, e10, if_false, cAxis, if_pos c2]
          exact out_lo le1_iff c3
      · exact ⟨-9223372036854775808, t_stress_cells, t_stress_parts, t_stress_det, m_row, m_wide, m_lost, m_strain, m_det, by simp only [fX7_strain, hL.1, e10, if_false, cAxis, if_neg c2, if_true], by simp only [fX8_strain, fX8_strained, h.is, Option.bind_some, hL.2, e10, if_false, mIn2, if_neg c2, if_true, ob6_some]⟩
    · have hL := loads_n c1
      exact ⟨-9223372036854775808, t_stress_cells, t_stress_parts, t_stress_det, m_row, m_wide, m_lost, m_strain, m_det, by simp only [fX7_strain, hL.1, if_true], by simp only [fX8_strain, fX8_strained, h.is, Option.bind_some, hL.2, e10, if_false, if_true, ob6_some]⟩
  · obtain ⟨rfl, h2, h3, h4, h5, h6, h7, h8, h9⟩ := id hN
    exact ⟨-9223372036854775808, t_stress_cells, t_stress_parts, t_stress_det, m_row, m_wide, m_lost, m_strain, m_det, by simp only [fX7_strain, fX7_areLoads, if_true], by simp only [fX8_strain, fX8_strained, mIs0 (h9 3 (by omega)), Option.bind_some, if_true, ob6_some]⟩
set_option maxHeartbeats 1000000 in
set_option maxRecDepth 100000 in
theorem cs_bend (t_now_cells : Nat → Int32) (t_now_rows : Nat → Int32) (t_now_sizes : Nat → Int32) (t_now_told : Int32) (t_now_acts : Int32) (t_stress_cells : Nat → Int64) (t_stress_parts : Nat → Int64) (t_stress_det : Int64) (m_mem : Nat → Int32) (m_row : Nat → Int32) (m_wide : Int32) (m_lost : Int32) (m_strain : Nat → Int64) (m_det : Int64) (t_now_numbers : Nat → Int32) (t_now_rooms : Nat → Int32) (t_now_lines : Int32) (t_now_kinds : Int32) (m_acted : Int32) (m_past : Nat → Int32) (v1 : Int32) (v2 : Int32) (v3 : Int32) (v4 : Int32) (v5 : Int32) (hN : PN t_now_numbers t_now_cells t_now_rows t_now_sizes t_now_rooms t_now_told t_now_lines t_now_kinds t_now_acts m_mem m_acted m_past) : ∃ (r : Int64) (o_t_stress_cells : Nat → Int64) (o_t_stress_parts : Nat → Int64) (o_t_stress_det : Int64) (o_m_row : Nat → Int32) (o_m_wide : Int32) (o_m_lost : Int32) (o_m_strain : Nat → Int64) (o_m_det : Int64), fX7_bend t_now_cells t_now_rows t_now_sizes t_now_told t_now_acts t_stress_cells t_stress_parts t_stress_det v1 v2 v3 v4 v5 = some (r, o_t_stress_cells, o_t_stress_parts, o_t_stress_det) ∧ fX8_bend m_mem m_row m_wide m_lost m_strain m_det v1 v2 v3 v4 v5 = some (r, o_m_row, o_m_wide, o_m_lost, o_m_strain, o_m_det) := by
  rcases hN with hN | hN
  · obtain ⟨kn, a, l, rm, nb, rfl, rfl, rfl, rfl, h⟩ := hN.view
    by_cases c1 : ld v1 ∧ ld v2 ∧ ld v3
    · have hL := loads_y c1.1 c1.2.1 c1.2.2
      by_cases c2 : 0 ≤ v4.toInt ∧ v4.toInt ≤ 2
      · by_cases c3 : 0 ≤ v5.toInt ∧ v5.toInt ≤ 1
        · obtain ⟨i, rfl, hi, -⟩ := int_nat c2.1
          obtain ⟨r, cl, p, d, row', wide', lost', st', dt', x1, y1⟩ := h.yield (w := 2) (i := i) (by omega) (by omega) c3 c1.1 c1.2.1 c1.2.2 t_stress_cells t_stress_parts t_stress_det m_row m_wide m_lost m_strain m_det
          have q5 : (v5 ≤ 1) = True := eq_true ((le1_iff _).mpr c3.2)
          refine ⟨r, cl, p, d, row', wide', lost', st', dt', ?_, ?_⟩
          · simp only [fX7_bend, hL.1, e10, if_false, cAxis, if_pos c2, nn0 c3.1, q5, if_true]
            rw [lit_nI2, x1, ob4_some]
          · rw [fX8_bend, lit_nI2, y1, ob6_some]
        · refine ⟨-9223372036854775808, t_stress_cells, t_stress_parts, t_stress_det, m_row, m_wide, m_lost, m_strain, m_det, ?_, by simp only [fX8_bend, fX8_strained, h.is, Option.bind_some, hL.2, e10, if_false, mIn2, if_pos c2, mIn1, if_neg c3, if_true, ob6_some]⟩
          simp only [fX7_bend, hL.1, e10, if_false, cAxis, if_pos c2]
          exact out_lo le1_iff c3
      · exact ⟨-9223372036854775808, t_stress_cells, t_stress_parts, t_stress_det, m_row, m_wide, m_lost, m_strain, m_det, by simp only [fX7_bend, hL.1, e10, if_false, cAxis, if_neg c2, if_true], by simp only [fX8_bend, fX8_strained, h.is, Option.bind_some, hL.2, e10, if_false, mIn2, if_neg c2, if_true, ob6_some]⟩
    · have hL := loads_n c1
      exact ⟨-9223372036854775808, t_stress_cells, t_stress_parts, t_stress_det, m_row, m_wide, m_lost, m_strain, m_det, by simp only [fX7_bend, hL.1, if_true], by simp only [fX8_bend, fX8_strained, h.is, Option.bind_some, hL.2, e10, if_false, if_true, ob6_some]⟩
  · obtain ⟨rfl, h2, h3, h4, h5, h6, h7, h8, h9⟩ := id hN
    exact ⟨-9223372036854775808, t_stress_cells, t_stress_parts, t_stress_det, m_row, m_wide, m_lost, m_strain, m_det, by simp only [fX7_bend, fX7_areLoads, if_true], by simp only [fX8_bend, fX8_strained, mIs0 (h9 3 (by omega)), Option.bind_some, if_true, ob6_some]⟩
set_option maxHeartbeats 1000000 in
set_option maxRecDepth 100000 in
theorem cs_factor (t_now_numbers : Nat → Int32) (t_now_cells : Nat → Int32) (t_now_rows : Nat → Int32) (t_now_sizes : Nat → Int32) (t_now_told : Int32) (t_now_acts : Int32) (t_stress_cells : Nat → Int64) (t_stress_parts : Nat → Int64) (t_stress_det : Int64) (m_mem : Nat → Int32) (m_row : Nat → Int32) (m_wide : Int32) (m_lost : Int32) (m_strain : Nat → Int64) (m_det : Int64) (t_now_rooms : Nat → Int32) (t_now_lines : Int32) (t_now_kinds : Int32) (m_acted : Int32) (m_past : Nat → Int32) (v1 : Int32) (v2 : Int32) (v3 : Int32) (v4 : Int32) (hN : PN t_now_numbers t_now_cells t_now_rows t_now_sizes t_now_rooms t_now_told t_now_lines t_now_kinds t_now_acts m_mem m_acted m_past) : ∃ (r : Int64) (o_t_stress_cells : Nat → Int64) (o_t_stress_parts : Nat → Int64) (o_t_stress_det : Int64) (o_m_row : Nat → Int32) (o_m_wide : Int32) (o_m_lost : Int32) (o_m_strain : Nat → Int64) (o_m_det : Int64), fX7_factor t_now_numbers t_now_cells t_now_rows t_now_sizes t_now_told t_now_acts t_stress_cells t_stress_parts t_stress_det v1 v2 v3 v4 = some (r, o_t_stress_cells, o_t_stress_parts, o_t_stress_det) ∧ fX8_factor m_mem m_row m_wide m_lost m_strain m_det v1 v2 v3 v4 = some (r, o_m_row, o_m_wide, o_m_lost, o_m_strain, o_m_det) := by
  rcases hN with hN | hN
  · obtain ⟨kn, a, l, rm, nb, rfl, rfl, rfl, rfl, h⟩ := hN.view
    by_cases c1 : ld v1 ∧ ld v2 ∧ ld v3
    · have hL := loads_y c1.1 c1.2.1 c1.2.2
      by_cases c2 : 0 ≤ v4.toInt ∧ v4.toInt ≤ 2
      · have q4 : (v4 ≤ 2) = True := eq_true ((le2_iff _).mpr c2.2)
        have l8 := h.len
        obtain ⟨cl, a1, a2⟩ := h.take (w := 0) (g := 0) (by omega) (by omega) t_stress_cells t_stress_det
        obtain ⟨p, b1, b2⟩ := cSolve (sT_sy nb l 0 0) a2 t_stress_parts v1 v2 v3
        obtain ⟨row', d1, d2⟩ := h.lays m_row m_wide m_lost
        obtain ⟨st', f1, f2⟩ := h.strM d2 (w := 0) (g := 0) (by omega) (by omega) v1.toInt v2.toInt v3.toInt m_strain m_det
        have wm := h.warpM h.R h.lt d2 (g := 0) (by omega)
        have bd0 := D3_bd (h.sT_bd0 0)
        have bd := D3_0 bd0
        rw [← lit_nI0] at a1 f1 wm
        have x0 : fX7_factor t_now_numbers t_now_cells t_now_rows t_now_sizes 1 (nI a) t_stress_cells t_stress_parts t_stress_det v1 v2 v3 v4 = ob2 (some (cl, i64 (D3 (sT nb l 0 0)))) fun w6 w7 => (fX7_isFlat t_now_cells t_now_rows t_now_sizes (nI a)).bind fun r9 => (if r9 = 0 then some ((-6), w6, t_stress_parts, w7) else (if (lg_cmp w7 0) = 0 then some ((-6), w6, t_stress_parts, w7) else (fX4_solve w6 t_stress_parts v1 v2 v3).bind fun w15 => (fX4_weakest w15 t_now_numbers t_now_rows t_now_sizes (nI a)).bind fun r17 => (if r17 = (-1) then some (r17.toInt64, w6, w15, w7) else (if v4 = 2 then some (r17.toInt64, w6, w15, w7) else (fX1_row t_now_rows (nI a)).bind fun r21 => (fX4_along w15 (fX3_angleAt r21 r17)).bind fun r23 => (fX4_bound w7 t_now_numbers t_now_rows (nI a) r17).bind fun r25 => (fX4_inLowestTerms r25 (labs r23) v4).bind fun r27 => some (r27, w6, w15, w7))))) := by
          simp only [fX7_factor, hL.1, e10, if_false, nn0 c2.1, q4, if_true, a1]
        have y0 : fX8_factor m_mem m_row m_wide m_lost m_strain m_det v1 v2 v3 v4 = (if (lg_cmp (i64 (D3 (sT nb l 0 0))) 0) = 0 then some ((-6), row', nI l.length, 0, st', i64 (D3 (sT nb l 0 0))) else (if (lg_cmp (wz (TG nb l 0 1)) 0) = 0 then fX8_factor_76 FU m_mem row' (nI l.length) 0 st' (i64 (D3 (sT nb l 0 0))) v4 (-1) 0 else some ((-6), row', nI l.length, 0, st', i64 (D3 (sT nb l 0 0))))) := by
          rw [fX8_factor, h.is, Option.bind_some, if_neg (by decide), hL.2, if_neg (by decide), mIn2, if_pos c2, if_neg (by decide), d1, ob3_some, to64, to64, to64, f1, ob2_some, wm, Option.bind_some]
        rw [ob2_some, h.isFlat, Option.bind_some, b1, Option.bind_some] at x0
        by_cases e : D3 (sT nb l 0 0) = 0
        · rw [if_pos (bd.mpr e)] at y0
          refine ⟨-6, cl, t_stress_parts, i64 (D3 (sT nb l 0 0)), row', nI l.length, 0, st', i64 (D3 (sT nb l 0 0)), ?_, y0⟩
          rw [x0, if_pos (bd.mpr e)]
          split <;> rfl
        · rw [if_neg (fun q => e (bd.mp q))] at x0 y0
          by_cases f : isFla (ceQ nb) l = true
          · rw [f, if_neg (show ¬ b32 true = 0 by decide)] at x0
            rw [if_pos ((h.wz0 h.R h.lt).mpr f)] at y0
            have w1 := h.wkC_loop c1.1 c1.2.1 c1.2.2 b2 l.length FU 0 99 (by omega) (FU_gt (by omega)) (Or.inr rfl)
            have w2 := h.wkM_loop d2 c1.1 c1.2.1 c1.2.2 f2 (lost := 0) (v4 := v4) (dt := i64 (D3 (sT nb l 0 0))) l.length FU 0 99 (by omega) (FU_gt (by omega)) (Or.inr rfl)
            have w3 := wkL_lt (L := lm nb l) (A := AA nb l 0 v1.toInt v2.toInt v3.toInt) (N := l.length) l.length 0 99 (by omega) (Or.inr rfl) (Or.inl rfl)
            rw [← lit_nI0] at w1 w2
            rw [show fX4_weakest p t_now_numbers t_now_rows t_now_sizes (nI a) = _ from w1, Option.bind_some] at x0
            rw [show fX8_factor_76 FU m_mem row' (nI l.length) 0 st' (i64 (D3 (sT nb l 0 0))) v4 (-1) 0 = _ from w2, fX8_factor_142] at y0
            generalize wkL (lm nb l) (AA nb l 0 v1.toInt v2.toInt v3.toInt) l.length 0 99 = b at x0 y0 w3
            by_cases g : b = 99
            · have r1 := (rI_m1 (b := b) (by omega)).mpr g
              rw [if_pos r1, r1] at x0
              rw [if_pos r1] at y0
              exact ⟨_, _, _, _, _, _, _, _, _, x0, y0⟩
            · have r1 := fun q => g ((rI_m1 (b := b) (by omega)).mp q)
              rw [if_neg r1] at x0 y0
              by_cases k : v4 = 2
              · rw [if_pos k] at x0 y0
                exact ⟨_, _, _, _, _, _, _, _, _, x0, y0⟩
              · have bl : b < l.length := by omega
                have hA : AA nb l 0 v1.toInt v2.toInt v3.toInt b ≠ 0 := by omega
                obtain ⟨h1, h2, h3⟩ := h.lm_bd bl
                have bA := h.aa_bd 0 c1.1 c1.2.1 c1.2.2 (l.getD b 0 % 4)
                have bD := h.dd_bd 0
                have bl2 := dl_bd h1.2 bD
                have bA' : AA nb l 0 v1.toInt v2.toInt v3.toInt b ≤ 3 * (3 * (2 * (4800 * 4800) * 999)) := by unfold AA; omega
                have sc := h.strC2 c1.1 c1.2.1 c1.2.2 b2 bl
                rw [fX4_strainedAt, h.row, Option.bind_some, angleAt_pk h.R (by omega), cAl b2 (Nat.mod_lt _ (by omega)), Option.bind_some] at sc
                have sc' := Option.some.inj sc
                have eb : rI b = nI b := by rw [rI, if_neg g]
                have em : lm nb l b * 2 * DD nb l 0 = 2 * (lm nb l b * DD nb l 0) := by rw [Nat.mul_comm (lm nb l b) 2, Nat.mul_assoc]
                have lo1 := low_both (v := v4) (x := ((2 * (lm nb l b * DD nb l 0) : Nat) : Int)) (y := ((2 * AA nb l 0 v1.toInt v2.toInt v3.toInt b : Nat) : Int)) ⟨by omega, by omega⟩ ⟨by omega, by omega⟩ (by omega)
                have lo2 := low_both (v := v4) (x := ((lm nb l b * DD nb l 0 : Nat) : Int)) (y := ((AA nb l 0 v1.toInt v2.toInt v3.toInt b : Nat) : Int)) ⟨by omega, by omega⟩ ⟨by omega, by omega⟩ (by omega)
                rw [low_2 (by omega) (by omega) (by omega)] at lo1
                rw [← lN_i64, ← lN_i64] at lo1 lo2
                rw [if_neg k, h.row, Option.bind_some, eb, angleAt_pk h.R (by omega), cAl b2 (Nat.mod_lt _ (by omega)), Option.bind_some, h.boundC 0 bl, Option.bind_some, sc', em, lo1.1, Option.bind_some] at x0
                rw [if_neg k, eb, h.limM d2 bl, Option.bind_some, h.alM d2 c1.1 c1.2.1 c1.2.2 f2 bl, Option.bind_some, labs_z ⟨by omega, by omega⟩, lN_mul, show lm nb l b * (D3 (sT nb l 0 0)).natAbs = lm nb l b * DD nb l 0 from rfl, lo2.2, Option.bind_some] at y0
                exact ⟨_, _, _, _, _, _, _, _, _, x0, y0⟩
          · rw [Bool.eq_false_iff.mpr f, if_pos (show b32 false = 0 from rfl)] at x0
            rw [if_neg (fun q => f ((h.wz0 h.R h.lt).mp q))] at y0
            exact ⟨_, _, _, _, _, _, _, _, _, x0, y0⟩
      · refine ⟨-2, t_stress_cells, t_stress_parts, t_stress_det, m_row, m_wide, m_lost, m_strain, m_det, ?_, by rw [fX8_factor, h.is, Option.bind_some, if_neg (by decide), hL.2, if_neg (by decide), mIn2, if_neg c2, if_pos rfl]⟩
        simp only [fX7_factor, hL.1, e10, if_false]
        exact out_lo le2_iff c2
    · have hL := loads_n c1
      exact ⟨-2, t_stress_cells, t_stress_parts, t_stress_det, m_row, m_wide, m_lost, m_strain, m_det, by rw [fX7_factor, hL.1, if_pos rfl], by rw [fX8_factor, h.is, Option.bind_some, if_neg (by decide), hL.2, if_pos rfl]⟩
  · obtain ⟨rfl, h2, h3, h4, h5, h6, h7, h8, h9⟩ := id hN
    exact ⟨-2, t_stress_cells, t_stress_parts, t_stress_det, m_row, m_wide, m_lost, m_strain, m_det, by simp only [fX7_factor, fX7_areLoads, if_true], by simp only [fX8_factor, mIs0 (h9 3 (by omega)), Option.bind_some, if_true]⟩
set_option maxHeartbeats 1000000 in
set_option maxRecDepth 100000 in
theorem cs_modulus (t_now_cells : Nat → Int32) (t_now_rows : Nat → Int32) (t_now_sizes : Nat → Int32) (t_now_told : Int32) (t_now_acts : Int32) (t_stress_cells : Nat → Int64) (t_stress_det : Int64) (m_mem : Nat → Int32) (m_row : Nat → Int32) (m_wide : Int32) (m_lost : Int32) (t_now_numbers : Nat → Int32) (t_now_rooms : Nat → Int32) (t_now_lines : Int32) (t_now_kinds : Int32) (m_acted : Int32) (m_past : Nat → Int32) (v1 : Int32) (v2 : Int32) (hN : PN t_now_numbers t_now_cells t_now_rows t_now_sizes t_now_rooms t_now_told t_now_lines t_now_kinds t_now_acts m_mem m_acted m_past) : ∃ (r : Int64) (o_t_stress_cells : Nat → Int64) (o_t_stress_det : Int64) (o_m_row : Nat → Int32) (o_m_wide : Int32) (o_m_lost : Int32), fX7_modulus t_now_cells t_now_rows t_now_sizes t_now_told t_now_acts t_stress_cells t_stress_det v1 v2 = some (r, o_t_stress_cells, o_t_stress_det) ∧ fX8_modulus m_mem m_row m_wide m_lost v1 v2 = some (r, o_m_row, o_m_wide, o_m_lost) := by
  rcases hN with hN | hN
  · obtain ⟨kn, a, l, rm, nb, rfl, rfl, rfl, rfl, h⟩ := hN.view
    by_cases c1 : 0 ≤ v1.toInt ∧ v1.toInt ≤ 1
    · have q1 : (1 < v1) = False := eq_false (fun q => by have : (1 : Int32).toInt < v1.toInt := Int32.lt_iff_toInt_lt.mp q; have e : (1 : Int32).toInt = 1 := rfl; omega)
      by_cases c2 : 0 ≤ v2.toInt ∧ v2.toInt ≤ 1
      · obtain ⟨i, rfl, hi, -⟩ := int_nat c1.1
        obtain ⟨cl, a1, a2⟩ := h.take (w := 0) (g := 0) (by omega) (by omega) t_stress_cells t_stress_det
        obtain ⟨row', b1, b2⟩ := h.lays m_row m_wide m_lost
        have q2 : (v2 ≤ 1) = True := eq_true ((le1_iff _).mpr c2.2)
        have cf := cCof (sT_sy nb l 0 0) a2 (i := i) (j := i) (by omega) (by omega)
        have mf := h.minor b2 (w := 0) (g := 0) (i := i) (j := i) (by omega) (by omega) (by omega) (by omega)
        have df := h.detM b2 (w := 0) (g := 0) (by omega) (by omega)
        have bd := D3_bd (h.sT_bd 0 0)
        have bc := C3_bd (h.sT_bd 0 0) i i
        have x1 : fX7_modulus t_now_cells t_now_rows t_now_sizes 1 (nI a) t_stress_cells t_stress_det (nI i) v2 = (if lg_cmp (i64 (C3 (sT nb l 0 0) i i)) 0 = 0 then some (-6, cl, i64 (D3 (sT nb l 0 0))) else (fX4_inLowestTerms (i64 (D3 (sT nb l 0 0))) (i64 (C3 (sT nb l 0 0) i i)) v2).bind fun r13 => some (r13, cl, i64 (D3 (sT nb l 0 0)))) := by
          simp only [fX7_modulus, e10, if_false, nn0 c1.1, q1, nn0 c2.1, q2, if_true]
          rw [lit_nI0, a1, ob2_some, cf, Option.bind_some]
        have y1 : fX8_modulus m_mem m_row m_wide m_lost (nI i) v2 = (if lg_cmp (i64 (C3 (sT nb l 0 0) i i)) 0 = 0 then some (-6, row', nI l.length, 0) else (fX8_part (i64 (D3 (sT nb l 0 0))) (i64 (C3 (sT nb l 0 0) i i)) v2).bind fun r19 => some (r19, row', nI l.length, 0)) := by
          simp only [fX8_modulus, h.is, Option.bind_some, e10, if_false, mIn1, if_pos c1, if_pos c2, b1, ob3_some]
          rw [lit_nI0, mf, Option.bind_some, df, Option.bind_some]
        by_cases e : lg_cmp (i64 (C3 (sT nb l 0 0) i i)) 0 = 0
        · rw [if_pos e] at x1 y1
          exact ⟨_, _, _, _, _, _, x1, y1⟩
        · rw [if_neg e] at x1 y1
          have e' : ¬ C3 (sT nb l 0 0) i i = 0 := fun q => e ((lg_cmp_eq _ _).mpr (by rw [q]; rfl))
          obtain ⟨z1, z2⟩ := low_both (v := v2) (x := D3 (sT nb l 0 0)) (y := C3 (sT nb l 0 0) i i) ⟨by omega, by omega⟩ ⟨by omega, by omega⟩ e'
          rw [z1, Option.bind_some] at x1
          rw [z2, Option.bind_some] at y1
          exact ⟨_, _, _, _, _, _, x1, y1⟩
      · refine ⟨-2, t_stress_cells, t_stress_det, m_row, m_wide, m_lost, ?_, by simp only [fX8_modulus, h.is, Option.bind_some, e10, if_false, mIn1, if_pos c1, if_neg c2, if_true]⟩
        simp only [fX7_modulus, e10, if_false, nn0 c1.1, q1]
        exact out_lo le1_iff c2
    · refine ⟨-2, t_stress_cells, t_stress_det, m_row, m_wide, m_lost, ?_, by simp only [fX8_modulus, h.is, Option.bind_some, e10, if_false, mIn1, if_neg c1, if_true]⟩
      simp only [fX7_modulus, e10, if_false]
      by_cases d : v1 < 0
      · rw [if_pos d]
      · rw [if_neg d, if_pos]
        rw [lt0_iff] at d
        rw [Int32.lt_iff_toInt_lt, show (1 : Int32).toInt = 1 from rfl]
        omega
  · obtain ⟨rfl, h2, h3, h4, h5, h6, h7, h8, h9⟩ := id hN
    exact ⟨-2, t_stress_cells, t_stress_det, m_row, m_wide, m_lost, by simp only [fX7_modulus, if_true], by simp only [fX8_modulus, mIs0 (h9 3 (by omega)), Option.bind_some, if_true]⟩
set_option maxHeartbeats 1000000 in
set_option maxRecDepth 100000 in
theorem cs_orders (t_now_cells : Nat → Int32) (t_now_rows : Nat → Int32) (t_now_sizes : Nat → Int32) (t_now_rooms : Nat → Int32) (t_now_told : Int32) (t_now_acts : Int32) (t_choices_rows_n : Nat) (t_choices_rows : Nat → Int64) (t_choices_size : Int32) (t_choices_ready : Int32) (t_choices_pool : Int32) (t_choices_plies : Int32) (t_choices_room : Int32) (m_mem : Nat → Int32) (m_row : Nat → Int32) (m_wide : Int32) (m_lost : Int32) (m_left : Nat → Int32) (m_mask : Int32) (m_mode : Int32) (m_wanted : Int32) (m_orders : Int32) (m_foundAt : Int32) (m_foundBy : Int64) (m_found : Nat → Int32) (m_seen : Nat → Int64) (m_unlikes : Int32) (t_now_numbers : Nat → Int32) (t_now_lines : Int32) (t_now_kinds : Int32) (m_acted : Int32) (m_past : Nat → Int32) (v1 : Int32) (hN : PN t_now_numbers t_now_cells t_now_rows t_now_sizes t_now_rooms t_now_told t_now_lines t_now_kinds t_now_acts m_mem m_acted m_past) (hO : PO t_now_cells t_choices_rows_n t_choices_rows t_choices_size t_choices_ready t_choices_pool t_choices_plies t_choices_room) : ∃ (lim0 : Nat) (r : Int32) (o_t_choices_rows_n : Nat) (o_t_choices_rows : Nat → Int64) (o_t_choices_size : Int32) (o_t_choices_ready : Int32) (o_t_choices_pool : Int32) (o_t_choices_plies : Int32) (o_t_choices_room : Int32) (o_m_row : Nat → Int32) (o_m_wide : Int32) (o_m_lost : Int32) (o_m_left : Nat → Int32) (o_m_mask : Int32) (o_m_mode : Int32) (o_m_wanted : Int32) (o_m_orders : Int32) (o_m_foundAt : Int32) (o_m_foundBy : Int64) (o_m_found : Nat → Int32) (o_m_seen : Nat → Int64) (o_m_unlikes : Int32), fX7_orders lim0 t_now_cells t_now_rows t_now_sizes t_now_rooms t_now_told t_now_acts t_choices_rows_n t_choices_rows t_choices_size t_choices_ready t_choices_pool t_choices_plies t_choices_room v1 = some (r, o_t_choices_rows_n, o_t_choices_rows, o_t_choices_size, o_t_choices_ready, o_t_choices_pool, o_t_choices_plies, o_t_choices_room) ∧ fX8_orders m_mem m_row m_wide m_lost m_left m_mask m_mode m_wanted m_orders m_foundAt m_foundBy m_found m_seen m_unlikes v1 = some (r, o_m_row, o_m_wide, o_m_lost, o_m_left, o_m_mask, o_m_mode, o_m_wanted, o_m_orders, o_m_foundAt, o_m_foundBy, o_m_found, o_m_seen, o_m_unlikes) ∧ PO t_now_cells o_t_choices_rows_n o_t_choices_rows o_t_choices_size o_t_choices_ready o_t_choices_pool o_t_choices_plies o_t_choices_room ∧ pot t_choices_rows_n + lim0 ≤ pot o_t_choices_rows_n := by
  rcases hN with hN | hN
  · obtain ⟨kn, a, l, rm, nb, rfl, rfl, rfl, rfl, h⟩ := hN.view
    have l8 := h.len
    by_cases c1 : 0 ≤ v1.toInt ∧ v1.toInt ≤ 7
    · have ask := asked_y h.is c1
      obtain ⟨q1, q2, m, hm, rfl⟩ := mask_y c1
      obtain ⟨lim0, rn, rw2, p1, p2, p3, p4⟩ := h.prep hO
      have n9 : (OL nb l rm m).length ≤ 40320 := by
        have := List.length_filter_le (fun x => soB (ceQ nb) x m) (ordL rm l)
        have := p2.1
        have := p2.2.1
        unfold OL
        omega
      obtain ⟨row2, left2, o2, fa2, fb2, fo2, se2, un2, g1, g2⟩ := h.mCount hm m_row m_wide m_lost m_left m_mask m_mode m_wanted m_orders m_foundAt m_foundBy m_found m_seen m_unlikes
      have pl := p2.place hm (Nat.le_refl _)
      rw [flt_all] at pl
      exact ⟨lim0, nI (OL nb l rm m).length, rn, rw2, _, _, _, _, _, row2, nI l.length, 0, left2, nI m, 0, 0, o2, fa2, fb2, fo2, se2, un2, by rw [fX7_orders, q1, if_neg (by decide), p1, ob7_some, fX0_howMany, pl, Option.bind_some, Option.bind_some]; rfl, by rw [fX8_orders, ask, Option.bind_some, if_neg (by decide), g1, ob14_some, g2], p3, p4⟩
    · exact ⟨0, -2, t_choices_rows_n, t_choices_rows, t_choices_size, t_choices_ready, t_choices_pool, t_choices_plies, t_choices_room, m_row, m_wide, m_lost, m_left, m_mask, m_mode, m_wanted, m_orders, m_foundAt, m_foundBy, m_found, m_seen, m_unlikes, by rw [fX7_orders, (mask_n c1).1, if_pos rfl], by rw [fX8_orders, asked_n h.is c1, Option.bind_some, if_pos rfl], hO, by omega⟩
  · obtain ⟨rfl, h2, h3, h4, h5, h6, h7, h8, h9⟩ := id hN
    exact ⟨0, -2, t_choices_rows_n, t_choices_rows, t_choices_size, t_choices_ready, t_choices_pool, t_choices_plies, t_choices_room, m_row, m_wide, m_lost, m_left, m_mask, m_mode, m_wanted, m_orders, m_foundAt, m_foundBy, m_found, m_seen, m_unlikes, by rw [fX7_orders, fX7_isMask, if_pos rfl, if_pos rfl], by rw [fX8_orders, asked_0 (mIs0 (h9 3 (by omega))), Option.bind_some, if_pos rfl], hO, by omega⟩
set_option maxHeartbeats 1000000 in
set_option maxRecDepth 100000 in
theorem cs_order (t_now_cells : Nat → Int32) (t_now_rows : Nat → Int32) (t_now_sizes : Nat → Int32) (t_now_rooms : Nat → Int32) (t_now_told : Int32) (t_now_acts : Int32) (t_choices_rows_n : Nat) (t_choices_rows : Nat → Int64) (t_choices_size : Int32) (t_choices_ready : Int32) (t_choices_pool : Int32) (t_choices_plies : Int32) (t_choices_room : Int32) (m_mem : Nat → Int32) (m_row : Nat → Int32) (m_wide : Int32) (m_lost : Int32) (m_left : Nat → Int32) (m_mask : Int32) (m_mode : Int32) (m_wanted : Int32) (m_orders : Int32) (m_foundAt : Int32) (m_foundBy : Int64) (m_found : Nat → Int32) (m_seen : Nat → Int64) (m_unlikes : Int32) (t_now_numbers : Nat → Int32) (t_now_lines : Int32) (t_now_kinds : Int32) (m_acted : Int32) (m_past : Nat → Int32) (v1 : Int32) (v2 : Int32) (v3 : Int32) (hN : PN t_now_numbers t_now_cells t_now_rows t_now_sizes t_now_rooms t_now_told t_now_lines t_now_kinds t_now_acts m_mem m_acted m_past) (hO : PO t_now_cells t_choices_rows_n t_choices_rows t_choices_size t_choices_ready t_choices_pool t_choices_plies t_choices_room) : ∃ (lim0 : Nat) (r : Int32) (o_t_choices_rows_n : Nat) (o_t_choices_rows : Nat → Int64) (o_t_choices_size : Int32) (o_t_choices_ready : Int32) (o_t_choices_pool : Int32) (o_t_choices_plies : Int32) (o_t_choices_room : Int32) (o_m_row : Nat → Int32) (o_m_wide : Int32) (o_m_lost : Int32) (o_m_left : Nat → Int32) (o_m_mask : Int32) (o_m_mode : Int32) (o_m_wanted : Int32) (o_m_orders : Int32) (o_m_foundAt : Int32) (o_m_foundBy : Int64) (o_m_found : Nat → Int32) (o_m_seen : Nat → Int64) (o_m_unlikes : Int32), fX7_order lim0 t_now_cells t_now_rows t_now_sizes t_now_rooms t_now_told t_now_acts t_choices_rows_n t_choices_rows t_choices_size t_choices_ready t_choices_pool t_choices_plies t_choices_room v1 v2 v3 = some (r, o_t_choices_rows_n, o_t_choices_rows, o_t_choices_size, o_t_choices_ready, o_t_choices_pool, o_t_choices_plies, o_t_choices_room) ∧ fX8_order m_mem m_row m_wide m_lost m_left m_mask m_mode m_wanted m_orders m_foundAt m_foundBy m_found m_seen m_unlikes v1 v2 v3 = some (r, o_m_row, o_m_wide, o_m_lost, o_m_left, o_m_mask, o_m_mode, o_m_wanted, o_m_orders, o_m_foundAt, o_m_foundBy, o_m_found, o_m_seen, o_m_unlikes) ∧ PO t_now_cells o_t_choices_rows_n o_t_choices_rows o_t_choices_size o_t_choices_ready o_t_choices_pool o_t_choices_plies o_t_choices_room ∧ pot t_choices_rows_n + lim0 ≤ pot o_t_choices_rows_n := by
  rcases hN with hN | hN
  · obtain ⟨kn, a, l, rm, nb, rfl, rfl, rfl, rfl, h⟩ := hN.view
    have l8 := h.len
    by_cases c1 : 0 ≤ v1.toInt ∧ v1.toInt ≤ 7
    · have ask := asked_y h.is c1
      obtain ⟨q1, q2, m, hm, rfl⟩ := mask_y c1
      by_cases c2 : 0 ≤ v2.toInt
      · obtain ⟨v, rfl, hv, -⟩ := int_nat c2
        have v31 : v < 2147483648 := by have := (nI v).toInt_lt; omega
        have v0 : (0 : Int32) ≤ nI v := Int32.le_iff_toInt_le.mpr c2
        have v0' : ¬ nI v < 0 := fun q => by have := (lt0_iff _).mp q; omega
        by_cases c3 : 0 ≤ v3.toInt ∧ v3.toInt < l.length
        · obtain ⟨i, rfl, hi, -⟩ := int_nat c3.1
          obtain ⟨lim0, rn, rw2, p1, p2, p3, p4⟩ := h.prep hO
          have n9 : (OL nb l rm m).length ≤ 40320 := by
            have := List.length_filter_le (fun x => soB (ceQ nb) x m) (ordL rm l)
            have := p2.1
            have := p2.2.1
            unfold OL
            omega
          obtain ⟨row2, left2, o2, fa2, fb2, fo2, se2, un2, g1, g2, g3⟩ := h.mKth hm v31 n9 m_row m_wide m_lost m_left m_mask m_mode m_wanted m_orders m_foundAt m_foundBy m_found m_seen m_unlikes
          rcases p2.find hm v31 with ⟨x1, p, x2, x3, x4⟩ | ⟨x1, x4⟩
          · have g4 := g3 x1
            have p4' := p2.1
            have p5' := p2.2.1
            obtain ⟨t1, t2, t3⟩ := h.ordM _ (getD_memL x2)
            have x1' : v < (OL nb l rm m).length := x1
            have x3' : (ordL rm l).getD p [] = (OL nb l rm m).getD v [] := x3
            exact ⟨lim0, nI (((OL nb l rm m).getD v []).getD i 0), rn, rw2, _, _, _, _, _, row2, nI l.length, 0, left2, nI m, 1, nI v, o2, fa2, fb2, fo2, se2, un2, by rw [fX7_order, q1, if_neg (by decide), if_neg v0', h.cply, Option.bind_some, if_pos c3, if_neg (by decide), p1, ob7_some, x4, Option.bind_some, if_neg (m1_ne (by omega)), p2.row x2, Option.bind_some, typeAt_pk t2 (by omega), x3'], by rw [fX8_order, ask, Option.bind_some, if_neg (by decide), if_neg v0', h.mply, Option.bind_some, if_pos c3, if_neg (by decide), g1, ob14_some, g2, if_le_n x1' (by omega), chkN (by omega) (by omega), nI_clamp' (by omega), g4 i (by omega)], p3, p4⟩
          · have x1' : ¬ v < (OL nb l rm m).length := x1
            exact ⟨lim0, -1, rn, rw2, _, _, _, _, _, row2, nI l.length, 0, left2, nI m, 1, nI v, o2, fa2, fb2, fo2, se2, un2, by rw [fX7_order, q1, if_neg (by decide), if_neg v0', h.cply, Option.bind_some, if_pos c3, if_neg (by decide), p1, ob7_some, x4, Option.bind_some, if_pos rfl], by rw [fX8_order, ask, Option.bind_some, if_neg (by decide), if_neg v0', h.mply, Option.bind_some, if_pos c3, if_neg (by decide), g1, ob14_some, g2, if_le_y (by omega) (by omega)], p3, p4⟩
        · exact ⟨0, -2, t_choices_rows_n, t_choices_rows, t_choices_size, t_choices_ready, t_choices_pool, t_choices_plies, t_choices_room, m_row, m_wide, m_lost, m_left, m_mask, m_mode, m_wanted, m_orders, m_foundAt, m_foundBy, m_found, m_seen, m_unlikes, by rw [fX7_order, q1, if_neg (by decide), if_neg v0', h.cply, Option.bind_some, if_neg c3, if_pos rfl], by rw [fX8_order, ask, Option.bind_some, if_neg (by decide), if_neg v0', h.mply, Option.bind_some, if_neg c3, if_pos rfl], hO, by omega⟩
      · have v0 : v2 < 0 := (lt0_iff _).mpr (by omega)
        exact ⟨0, -2, t_choices_rows_n, t_choices_rows, t_choices_size, t_choices_ready, t_choices_pool, t_choices_plies, t_choices_room, m_row, m_wide, m_lost, m_left, m_mask, m_mode, m_wanted, m_orders, m_foundAt, m_foundBy, m_found, m_seen, m_unlikes, by rw [fX7_order, q1, if_neg (by decide), if_pos v0], by rw [fX8_order, ask, Option.bind_some, if_neg (by decide), if_pos v0], hO, by omega⟩
    · exact ⟨0, -2, t_choices_rows_n, t_choices_rows, t_choices_size, t_choices_ready, t_choices_pool, t_choices_plies, t_choices_room, m_row, m_wide, m_lost, m_left, m_mask, m_mode, m_wanted, m_orders, m_foundAt, m_foundBy, m_found, m_seen, m_unlikes, by rw [fX7_order, (mask_n c1).1, if_pos rfl], by rw [fX8_order, asked_n h.is c1, Option.bind_some, if_pos rfl], hO, by omega⟩
  · obtain ⟨rfl, h2, h3, h4, h5, h6, h7, h8, h9⟩ := id hN
    exact ⟨0, -2, t_choices_rows_n, t_choices_rows, t_choices_size, t_choices_ready, t_choices_pool, t_choices_plies, t_choices_room, m_row, m_wide, m_lost, m_left, m_mask, m_mode, m_wanted, m_orders, m_foundAt, m_foundBy, m_found, m_seen, m_unlikes, by rw [fX7_order, fX7_isMask, if_pos rfl, if_pos rfl], by rw [fX8_order, asked_0 (mIs0 (h9 3 (by omega))), Option.bind_some, if_pos rfl], hO, by omega⟩
set_option maxHeartbeats 1000000 in
set_option maxRecDepth 100000 in
theorem cs_rank (t_now_cells : Nat → Int32) (t_now_rows : Nat → Int32) (t_now_sizes : Nat → Int32) (t_now_rooms : Nat → Int32) (t_now_told : Int32) (t_now_acts : Int32) (t_choices_rows_n : Nat) (t_choices_rows : Nat → Int64) (t_choices_size : Int32) (t_choices_ready : Int32) (t_choices_pool : Int32) (t_choices_plies : Int32) (t_choices_room : Int32) (m_mem : Nat → Int32) (m_row : Nat → Int32) (m_wide : Int32) (m_lost : Int32) (m_left : Nat → Int32) (m_mask : Int32) (m_mode : Int32) (m_wanted : Int32) (m_orders : Int32) (m_foundAt : Int32) (m_foundBy : Int64) (m_found : Nat → Int32) (m_seen : Nat → Int64) (m_unlikes : Int32) (t_now_numbers : Nat → Int32) (t_now_lines : Int32) (t_now_kinds : Int32) (m_acted : Int32) (m_past : Nat → Int32) (v1 : Int32) (hN : PN t_now_numbers t_now_cells t_now_rows t_now_sizes t_now_rooms t_now_told t_now_lines t_now_kinds t_now_acts m_mem m_acted m_past) (hO : PO t_now_cells t_choices_rows_n t_choices_rows t_choices_size t_choices_ready t_choices_pool t_choices_plies t_choices_room) : ∃ (lim0 : Nat) (r : Int32) (o_t_choices_rows_n : Nat) (o_t_choices_rows : Nat → Int64) (o_t_choices_size : Int32) (o_t_choices_ready : Int32) (o_t_choices_pool : Int32) (o_t_choices_plies : Int32) (o_t_choices_room : Int32) (o_m_row : Nat → Int32) (o_m_wide : Int32) (o_m_lost : Int32) (o_m_left : Nat → Int32) (o_m_mask : Int32) (o_m_mode : Int32) (o_m_wanted : Int32) (o_m_orders : Int32) (o_m_foundAt : Int32) (o_m_foundBy : Int64) (o_m_found : Nat → Int32) (o_m_seen : Nat → Int64) (o_m_unlikes : Int32), fX7_rank lim0 t_now_cells t_now_rows t_now_sizes t_now_rooms t_now_told t_now_acts t_choices_rows_n t_choices_rows t_choices_size t_choices_ready t_choices_pool t_choices_plies t_choices_room v1 = some (r, o_t_choices_rows_n, o_t_choices_rows, o_t_choices_size, o_t_choices_ready, o_t_choices_pool, o_t_choices_plies, o_t_choices_room) ∧ fX8_rank m_mem m_row m_wide m_lost m_left m_mask m_mode m_wanted m_orders m_foundAt m_foundBy m_found m_seen m_unlikes v1 = some (r, o_m_row, o_m_wide, o_m_lost, o_m_left, o_m_mask, o_m_mode, o_m_wanted, o_m_orders, o_m_foundAt, o_m_foundBy, o_m_found, o_m_seen, o_m_unlikes) ∧ PO t_now_cells o_t_choices_rows_n o_t_choices_rows o_t_choices_size o_t_choices_ready o_t_choices_pool o_t_choices_plies o_t_choices_room ∧ pot t_choices_rows_n + lim0 ≤ pot o_t_choices_rows_n := by
  rcases hN with hN | hN
  · obtain ⟨kn, a, l, rm, nb, rfl, rfl, rfl, rfl, h⟩ := hN.view
    have l8 := h.len
    by_cases c1 : 0 ≤ v1.toInt ∧ v1.toInt ≤ 7
    · have ask := asked_y h.is c1
      obtain ⟨q1, q2, m, hm, rfl⟩ := mask_y c1
      obtain ⟨lim0, rn, rw2, p1, p2, p3, p4⟩ := h.prep hO
      have n9 : (OL nb l rm m).length ≤ 40320 := by
        have := List.length_filter_le (fun x => soB (ceQ nb) x m) (ordL rm l)
        have := p2.1
        have := p2.2.1
        unfold OL
        omega
      obtain ⟨row2, left2, o2, fa2, fb2, fo2, se2, un2, g1, g2, g3⟩ := h.mRank hm m_row m_wide m_lost m_left m_mask m_mode m_wanted m_orders m_foundAt m_foundBy m_found m_seen m_unlikes
      obtain ⟨r, f1, f2⟩ := p2.placeOf h.R hm
      have er : fa2 = r := by
        rcases g3 with ⟨k, x1, x2, x3⟩ | ⟨x1, x2⟩
        · rcases f2 with ⟨k2, y1, y2, y3⟩ | ⟨y1, y2⟩
          · rw [x3, y3, nodup_getD (OL_nodup nb l rm m) x1 y1 (x2.trans y2.symm)]
          · exact absurd x2 (y1 k x1)
        · rcases f2 with ⟨k2, y1, y2, y3⟩ | ⟨y1, y2⟩
          · exact absurd y2 (x1 k2 y1)
          · rw [x2, y2]
      subst er
      refine ⟨lim0, fa2, rn, rw2, _, _, _, _, _, row2, nI l.length, 0, left2, nI m, 2, 0, o2, fa2, fb2, fo2, se2, un2, by rw [fX7_rank, q1, if_neg (by decide), p1, ob7_some, h.row, Option.bind_some, f1, Option.bind_some], ?_, p3, p4⟩
      rw [fX8_rank, ask, Option.bind_some, if_neg (by decide), g1, ob14_some]
      rcases g3 with ⟨k, x1, x2, x3⟩ | ⟨x1, x2⟩
      · rw [g2, x3, if_le_n x1 (by omega)]
      · rw [x2]
        split <;> rfl
    · exact ⟨0, -2, t_choices_rows_n, t_choices_rows, t_choices_size, t_choices_ready, t_choices_pool, t_choices_plies, t_choices_room, m_row, m_wide, m_lost, m_left, m_mask, m_mode, m_wanted, m_orders, m_foundAt, m_foundBy, m_found, m_seen, m_unlikes, by rw [fX7_rank, (mask_n c1).1, if_pos rfl], by rw [fX8_rank, asked_n h.is c1, Option.bind_some, if_pos rfl], hO, by omega⟩
  · obtain ⟨rfl, h2, h3, h4, h5, h6, h7, h8, h9⟩ := id hN
    exact ⟨0, -2, t_choices_rows_n, t_choices_rows, t_choices_size, t_choices_ready, t_choices_pool, t_choices_plies, t_choices_room, m_row, m_wide, m_lost, m_left, m_mask, m_mode, m_wanted, m_orders, m_foundAt, m_foundBy, m_found, m_seen, m_unlikes, by rw [fX7_rank, fX7_isMask, if_pos rfl, if_pos rfl], by rw [fX8_rank, asked_0 (mIs0 (h9 3 (by omega))), Option.bind_some, if_pos rfl], hO, by omega⟩
set_option maxHeartbeats 1000000 in
set_option maxRecDepth 100000 in
theorem cs_best (t_now_cells : Nat → Int32) (t_now_rows : Nat → Int32) (t_now_sizes : Nat → Int32) (t_now_rooms : Nat → Int32) (t_now_told : Int32) (t_now_acts : Int32) (t_choices_rows_n : Nat) (t_choices_rows : Nat → Int64) (t_choices_size : Int32) (t_choices_ready : Int32) (t_choices_pool : Int32) (t_choices_plies : Int32) (t_choices_room : Int32) (m_mem : Nat → Int32) (m_row : Nat → Int32) (m_wide : Int32) (m_lost : Int32) (m_left : Nat → Int32) (m_mask : Int32) (m_mode : Int32) (m_wanted : Int32) (m_orders : Int32) (m_foundAt : Int32) (m_foundBy : Int64) (m_found : Nat → Int32) (m_seen : Nat → Int64) (m_unlikes : Int32) (t_now_numbers : Nat → Int32) (t_now_lines : Int32) (t_now_kinds : Int32) (m_acted : Int32) (m_past : Nat → Int32) (v1 : Int32) (v2 : Int32) (hN : PN t_now_numbers t_now_cells t_now_rows t_now_sizes t_now_rooms t_now_told t_now_lines t_now_kinds t_now_acts m_mem m_acted m_past) (hO : PO t_now_cells t_choices_rows_n t_choices_rows t_choices_size t_choices_ready t_choices_pool t_choices_plies t_choices_room) : ∃ (lim0 : Nat) (r : Int32) (o_t_choices_rows_n : Nat) (o_t_choices_rows : Nat → Int64) (o_t_choices_size : Int32) (o_t_choices_ready : Int32) (o_t_choices_pool : Int32) (o_t_choices_plies : Int32) (o_t_choices_room : Int32) (o_m_row : Nat → Int32) (o_m_wide : Int32) (o_m_lost : Int32) (o_m_left : Nat → Int32) (o_m_mask : Int32) (o_m_mode : Int32) (o_m_wanted : Int32) (o_m_orders : Int32) (o_m_foundAt : Int32) (o_m_foundBy : Int64) (o_m_found : Nat → Int32) (o_m_seen : Nat → Int64) (o_m_unlikes : Int32), fX7_best lim0 t_now_cells t_now_rows t_now_sizes t_now_rooms t_now_told t_now_acts t_choices_rows_n t_choices_rows t_choices_size t_choices_ready t_choices_pool t_choices_plies t_choices_room v1 v2 = some (r, o_t_choices_rows_n, o_t_choices_rows, o_t_choices_size, o_t_choices_ready, o_t_choices_pool, o_t_choices_plies, o_t_choices_room) ∧ fX8_best m_mem m_row m_wide m_lost m_left m_mask m_mode m_wanted m_orders m_foundAt m_foundBy m_found m_seen m_unlikes v1 v2 = some (r, o_m_row, o_m_wide, o_m_lost, o_m_left, o_m_mask, o_m_mode, o_m_wanted, o_m_orders, o_m_foundAt, o_m_foundBy, o_m_found, o_m_seen, o_m_unlikes) ∧ PO t_now_cells o_t_choices_rows_n o_t_choices_rows o_t_choices_size o_t_choices_ready o_t_choices_pool o_t_choices_plies o_t_choices_room ∧ pot t_choices_rows_n + lim0 ≤ pot o_t_choices_rows_n := by
  rcases hN with hN | hN
  · obtain ⟨kn, a, l, rm, nb, rfl, rfl, rfl, rfl, h⟩ := hN.view
    have l8 := h.len
    by_cases c1 : 0 ≤ v1.toInt ∧ v1.toInt ≤ 7
    · have ask := asked_y h.is c1
      obtain ⟨q1, q2, m, hm, rfl⟩ := mask_y c1
      by_cases c2 : 0 ≤ v2.toInt ∧ v2.toInt ≤ 3
      · obtain ⟨w, rfl, hw, -⟩ := int_nat c2.1
        have w3 : w ≤ 3 := by omega
        have q3 : (nI w ≤ 3) = True := eq_true ((le3_iff _).mpr c2.2)
        have isb : fX8_isBest m_mem (nI m) (nI w) = some 1 := by rw [fX8_isBest, ask, Option.bind_some, if_neg (by decide), mIn3, if_pos (show 0 ≤ (nI w).toInt ∧ (nI w).toInt < 4 by omega), if_neg (by decide)]
        obtain ⟨lim0, rn, rw2, p1, p2, p3, p4⟩ := h.prep hO
        have n9 : (OL nb l rm m).length ≤ 40320 := by
          have := List.length_filter_le (fun x => soB (ceQ nb) x m) (ordL rm l)
          have := p2.1
          have := p2.2.1
          unfold OL
          omega
        obtain ⟨row2, left2, o2, fa2, fb2, fo2, se2, un2, g1, g2, g3, g4⟩ := h.mBest hm w3 n9 m_row m_wide m_lost m_left m_mask m_mode m_wanted m_orders m_foundAt m_foundBy m_found m_seen m_unlikes
        obtain ⟨r, mo2, f1, f2⟩ := h.bestC p2 hm w3
        have bl := bI_lt (vB nb w) (OL nb l rm m) (OL nb l rm m).length (by omega)
        have fa := flt_all (ordL rm l) (fun x => soB (ceQ nb) x m)
        rcases f2 with ⟨x1, x2⟩ | ⟨p, x1, x2, x3, x4, x5⟩
        · rw [fa] at x1
          have n0 : (OL nb l rm m).length = 0 := by
            rcases bl with ⟨z, -⟩ | ⟨z1, z2⟩
            · exact z
            · have : bI (vB nb w) (OL nb l rm m) (OL nb l rm m).length = 99999 := x1
              omega
          exact ⟨lim0, -1, rn, rw2, _, _, _, _, _, row2, nI l.length, 0, left2, nI m, 3, nI w, o2, fa2, fb2, fo2, se2, un2, by rw [fX7_best, q1, if_neg (by decide), if_neg (show ¬ nI w < 0 from fun q => by have := (nI_lt' (b := 0) (by omega) (by omega)).mp q; omega), if_pos (show nI w ≤ 3 from (le3_iff _).mpr c2.2), p1, ob7_some, f1, Option.bind_some, if_pos x2], by rw [fX8_best, isb, Option.bind_some, if_neg (by decide), g1, ob14_some, if_pos (show o2 = 0 by rw [g2, n0]; rfl)], p3, p4⟩
        · rw [fa] at x4
          have x4' : bI (vB nb w) (OL nb l rm m) (OL nb l rm m).length = flt (ordL rm l) (fun x => soB (ceQ nb) x m) p := x4
          obtain ⟨a1, a2⟩ := flt_at (p := fun x => soB (ceQ nb) x m) x1 x3
          have a2' : (OL nb l rm m).getD (flt (ordL rm l) (fun x => soB (ceQ nb) x m) p) [] = (ordL rm l).getD p [] := a2
          have a1' : flt (ordL rm l) (fun x => soB (ceQ nb) x m) p < (OL nb l rm m).length := a1
          have p4' := p2.1
          have p5' := p2.2.1
          have n0 : ¬ nI (OL nb l rm m).length = 0 := nI_ne (b := 0) (by omega) (by omega) (by omega)
          have m1 : ¬ r = -1 := by rw [x2]; exact m1_ne (by omega)
          have h9 : ¬ bI (vB nb w) (OL nb l rm m) (OL nb l rm m).length = 99999 := by omega
          have fk : fa2 = nI (flt (ordL rm l) (fun x => soB (ceQ nb) x m) p) := by rw [g3, x4', rK, if_neg (by omega)]
          have fbv := g4 h9
          rw [x4', a2'] at fbv
          exact ⟨lim0, nI (flt (ordL rm l) (fun x => soB (ceQ nb) x m) p), rn, rw2, _, _, _, _, _, row2, nI l.length, 0, left2, nI m, 3, nI w, o2, fa2, fb2, fo2, se2, un2, by rw [fX7_best, q1, if_neg (by decide), if_neg (show ¬ nI w < 0 from fun q => by have := (nI_lt' (b := 0) (by omega) (by omega)).mp q; omega), if_pos (show nI w ≤ 3 from (le3_iff _).mpr c2.2), p1, ob7_some, f1, Option.bind_some, if_neg m1, x2, p2.place hm (by omega), Option.bind_some], by rw [fX8_best, isb, Option.bind_some, if_neg (by decide), g1, ob14_some, if_neg (show ¬ o2 = 0 by rw [g2]; exact n0), fk], p3, p4⟩
      · have isb : fX8_isBest m_mem (nI m) v2 = some 0 := by rw [fX8_isBest, ask, Option.bind_some, if_neg (by decide), mIn3, if_neg (show ¬ (0 ≤ v2.toInt ∧ v2.toInt < 4) by omega), if_pos rfl]
        refine ⟨0, -2, t_choices_rows_n, t_choices_rows, t_choices_size, t_choices_ready, t_choices_pool, t_choices_plies, t_choices_room, m_row, m_wide, m_lost, m_left, m_mask, m_mode, m_wanted, m_orders, m_foundAt, m_foundBy, m_found, m_seen, m_unlikes, ?_, by rw [fX8_best, isb, Option.bind_some, if_pos rfl], hO, by omega⟩
        rw [fX7_best, q1, if_neg (by decide)]
        exact out_lo le3_iff c2
    · exact ⟨0, -2, t_choices_rows_n, t_choices_rows, t_choices_size, t_choices_ready, t_choices_pool, t_choices_plies, t_choices_room, m_row, m_wide, m_lost, m_left, m_mask, m_mode, m_wanted, m_orders, m_foundAt, m_foundBy, m_found, m_seen, m_unlikes, by rw [fX7_best, (mask_n c1).1, if_pos rfl], by rw [fX8_best, fX8_isBest, asked_n h.is c1, Option.bind_some, if_pos rfl, Option.bind_some, if_pos rfl], hO, by omega⟩
  · obtain ⟨rfl, h2, h3, h4, h5, h6, h7, h8, h9⟩ := id hN
    exact ⟨0, -2, t_choices_rows_n, t_choices_rows, t_choices_size, t_choices_ready, t_choices_pool, t_choices_plies, t_choices_room, m_row, m_wide, m_lost, m_left, m_mask, m_mode, m_wanted, m_orders, m_foundAt, m_foundBy, m_found, m_seen, m_unlikes, by rw [fX7_best, fX7_isMask, if_pos rfl, if_pos rfl], by rw [fX8_best, fX8_isBest, asked_0 (mIs0 (h9 3 (by omega))), Option.bind_some, if_pos rfl, Option.bind_some, if_pos rfl], hO, by omega⟩
set_option maxHeartbeats 1000000 in
set_option maxRecDepth 100000 in
theorem cs_bestBy (t_now_cells : Nat → Int32) (t_now_rows : Nat → Int32) (t_now_sizes : Nat → Int32) (t_now_rooms : Nat → Int32) (t_now_told : Int32) (t_now_acts : Int32) (t_choices_rows_n : Nat) (t_choices_rows : Nat → Int64) (t_choices_size : Int32) (t_choices_ready : Int32) (t_choices_pool : Int32) (t_choices_plies : Int32) (t_choices_room : Int32) (m_mem : Nat → Int32) (m_row : Nat → Int32) (m_wide : Int32) (m_lost : Int32) (m_left : Nat → Int32) (m_mask : Int32) (m_mode : Int32) (m_wanted : Int32) (m_orders : Int32) (m_foundAt : Int32) (m_foundBy : Int64) (m_found : Nat → Int32) (m_seen : Nat → Int64) (m_unlikes : Int32) (t_now_numbers : Nat → Int32) (t_now_lines : Int32) (t_now_kinds : Int32) (m_acted : Int32) (m_past : Nat → Int32) (v1 : Int32) (v2 : Int32) (hN : PN t_now_numbers t_now_cells t_now_rows t_now_sizes t_now_rooms t_now_told t_now_lines t_now_kinds t_now_acts m_mem m_acted m_past) (hO : PO t_now_cells t_choices_rows_n t_choices_rows t_choices_size t_choices_ready t_choices_pool t_choices_plies t_choices_room) : ∃ (lim0 : Nat) (r : Int64) (o_t_choices_rows_n : Nat) (o_t_choices_rows : Nat → Int64) (o_t_choices_size : Int32) (o_t_choices_ready : Int32) (o_t_choices_pool : Int32) (o_t_choices_plies : Int32) (o_t_choices_room : Int32) (o_m_row : Nat → Int32) (o_m_wide : Int32) (o_m_lost : Int32) (o_m_left : Nat → Int32) (o_m_mask : Int32) (o_m_mode : Int32) (o_m_wanted : Int32) (o_m_orders : Int32) (o_m_foundAt : Int32) (o_m_foundBy : Int64) (o_m_found : Nat → Int32) (o_m_seen : Nat → Int64) (o_m_unlikes : Int32), fX7_bestBy lim0 t_now_cells t_now_rows t_now_sizes t_now_rooms t_now_told t_now_acts t_choices_rows_n t_choices_rows t_choices_size t_choices_ready t_choices_pool t_choices_plies t_choices_room v1 v2 = some (r, o_t_choices_rows_n, o_t_choices_rows, o_t_choices_size, o_t_choices_ready, o_t_choices_pool, o_t_choices_plies, o_t_choices_room) ∧ fX8_bestBy m_mem m_row m_wide m_lost m_left m_mask m_mode m_wanted m_orders m_foundAt m_foundBy m_found m_seen m_unlikes v1 v2 = some (r, o_m_row, o_m_wide, o_m_lost, o_m_left, o_m_mask, o_m_mode, o_m_wanted, o_m_orders, o_m_foundAt, o_m_foundBy, o_m_found, o_m_seen, o_m_unlikes) ∧ PO t_now_cells o_t_choices_rows_n o_t_choices_rows o_t_choices_size o_t_choices_ready o_t_choices_pool o_t_choices_plies o_t_choices_room ∧ pot t_choices_rows_n + lim0 ≤ pot o_t_choices_rows_n := by
  rcases hN with hN | hN
  · obtain ⟨kn, a, l, rm, nb, rfl, rfl, rfl, rfl, h⟩ := hN.view
    have l8 := h.len
    by_cases c1 : 0 ≤ v1.toInt ∧ v1.toInt ≤ 7
    · have ask := asked_y h.is c1
      obtain ⟨q1, q2, m, hm, rfl⟩ := mask_y c1
      by_cases c2 : 0 ≤ v2.toInt ∧ v2.toInt ≤ 3
      · obtain ⟨w, rfl, hw, -⟩ := int_nat c2.1
        have w3 : w ≤ 3 := by omega
        have q3 : (nI w ≤ 3) = True := eq_true ((le3_iff _).mpr c2.2)
        have isb : fX8_isBest m_mem (nI m) (nI w) = some 1 := by rw [fX8_isBest, ask, Option.bind_some, if_neg (by decide), mIn3, if_pos (show 0 ≤ (nI w).toInt ∧ (nI w).toInt < 4 by omega), if_neg (by decide)]
        obtain ⟨lim0, rn, rw2, p1, p2, p3, p4⟩ := h.prep hO
        have n9 : (OL nb l rm m).length ≤ 40320 := by
          have := List.length_filter_le (fun x => soB (ceQ nb) x m) (ordL rm l)
          have := p2.1
          have := p2.2.1
          unfold OL
          omega
        obtain ⟨row2, left2, o2, fa2, fb2, fo2, se2, un2, g1, g2, g3, g4⟩ := h.mBest hm w3 n9 m_row m_wide m_lost m_left m_mask m_mode m_wanted m_orders m_foundAt m_foundBy m_found m_seen m_unlikes
        obtain ⟨r, mo2, f1, f2⟩ := h.bestC p2 hm w3
        have bl := bI_lt (vB nb w) (OL nb l rm m) (OL nb l rm m).length (by omega)
        have fa := flt_all (ordL rm l) (fun x => soB (ceQ nb) x m)
        rcases f2 with ⟨x1, x2⟩ | ⟨p, x1, x2, x3, x4, x5⟩
        · rw [fa] at x1
          have n0 : (OL nb l rm m).length = 0 := by
            rcases bl with ⟨z, -⟩ | ⟨z1, z2⟩
            · exact z
            · have : bI (vB nb w) (OL nb l rm m) (OL nb l rm m).length = 99999 := x1
              omega
          exact ⟨lim0, -1, rn, rw2, _, _, _, _, _, row2, nI l.length, 0, left2, nI m, 3, nI w, o2, fa2, fb2, fo2, se2, un2, by rw [fX7_bestBy, q1, if_neg (by decide), if_neg (show ¬ nI w < 0 from fun q => by have := (nI_lt' (b := 0) (by omega) (by omega)).mp q; omega), if_pos (show nI w ≤ 3 from (le3_iff _).mpr c2.2), p1, ob7_some, f1, Option.bind_some, if_pos x2], by rw [fX8_bestBy, isb, Option.bind_some, if_neg (by decide), g1, ob14_some, if_pos (show o2 = 0 by rw [g2, n0]; rfl)], p3, p4⟩
        · rw [fa] at x4
          have x4' : bI (vB nb w) (OL nb l rm m) (OL nb l rm m).length = flt (ordL rm l) (fun x => soB (ceQ nb) x m) p := x4
          obtain ⟨a1, a2⟩ := flt_at (p := fun x => soB (ceQ nb) x m) x1 x3
          have a2' : (OL nb l rm m).getD (flt (ordL rm l) (fun x => soB (ceQ nb) x m) p) [] = (ordL rm l).getD p [] := a2
          have a1' : flt (ordL rm l) (fun x => soB (ceQ nb) x m) p < (OL nb l rm m).length := a1
          have p4' := p2.1
          have p5' := p2.2.1
          have n0 : ¬ nI (OL nb l rm m).length = 0 := nI_ne (b := 0) (by omega) (by omega) (by omega)
          have m1 : ¬ r = -1 := by rw [x2]; exact m1_ne (by omega)
          have h9 : ¬ bI (vB nb w) (OL nb l rm m) (OL nb l rm m).length = 99999 := by omega
          have fk : fa2 = nI (flt (ordL rm l) (fun x => soB (ceQ nb) x m) p) := by rw [g3, x4', rK, if_neg (by omega)]
          have fbv := g4 h9
          rw [x4', a2'] at fbv
          refine ⟨lim0, (if w = 3 then i64 (-(vB nb w ((ordL rm l).getD p []))) else i64 (vB nb w ((ordL rm l).getD p []))), rn, rw2, _, _, _, _, _, row2, nI l.length, 0, left2, nI m, 3, nI w, o2, fa2, fb2, fo2, se2, un2, by rw [fX7_bestBy, q1, if_neg (by decide), if_neg (show ¬ nI w < 0 from fun q => by have := (nI_lt' (b := 0) (by omega) (by omega)).mp q; omega), if_pos (show nI w ≤ 3 from (le3_iff _).mpr c2.2), p1, ob7_some, f1, Option.bind_some, if_neg m1, x2, h.merit p2 w3 (by omega), Option.bind_some], ?_, p3, p4⟩
          rw [fX8_bestBy, isb, Option.bind_some, if_neg (by decide), g1, ob14_some, if_neg (show ¬ o2 = 0 by rw [g2]; exact n0), fbv]
          by_cases e3 : w = 3
          · rw [if_pos (show nI w = 3 by rw [e3]; rfl), if_pos e3, ← i64_neg]
          · rw [if_neg (show ¬ nI w = 3 from nI_ne (b := 3) e3 (by omega) (by omega)), if_neg e3]
      · have isb : fX8_isBest m_mem (nI m) v2 = some 0 := by rw [fX8_isBest, ask, Option.bind_some, if_neg (by decide), mIn3, if_neg (show ¬ (0 ≤ v2.toInt ∧ v2.toInt < 4) by omega), if_pos rfl]
        refine ⟨0, -2, t_choices_rows_n, t_choices_rows, t_choices_size, t_choices_ready, t_choices_pool, t_choices_plies, t_choices_room, m_row, m_wide, m_lost, m_left, m_mask, m_mode, m_wanted, m_orders, m_foundAt, m_foundBy, m_found, m_seen, m_unlikes, ?_, by rw [fX8_bestBy, isb, Option.bind_some, if_pos rfl], hO, by omega⟩
        rw [fX7_bestBy, q1, if_neg (by decide)]
        exact out_lo le3_iff c2
    · exact ⟨0, -2, t_choices_rows_n, t_choices_rows, t_choices_size, t_choices_ready, t_choices_pool, t_choices_plies, t_choices_room, m_row, m_wide, m_lost, m_left, m_mask, m_mode, m_wanted, m_orders, m_foundAt, m_foundBy, m_found, m_seen, m_unlikes, by rw [fX7_bestBy, (mask_n c1).1, if_pos rfl], by rw [fX8_bestBy, fX8_isBest, asked_n h.is c1, Option.bind_some, if_pos rfl, Option.bind_some, if_pos rfl], hO, by omega⟩
  · obtain ⟨rfl, h2, h3, h4, h5, h6, h7, h8, h9⟩ := id hN
    exact ⟨0, -2, t_choices_rows_n, t_choices_rows, t_choices_size, t_choices_ready, t_choices_pool, t_choices_plies, t_choices_room, m_row, m_wide, m_lost, m_left, m_mask, m_mode, m_wanted, m_orders, m_foundAt, m_foundBy, m_found, m_seen, m_unlikes, by rw [fX7_bestBy, fX7_isMask, if_pos rfl, if_pos rfl], by rw [fX8_bestBy, fX8_isBest, asked_0 (mIs0 (h9 3 (by omega))), Option.bind_some, if_pos rfl, Option.bind_some, if_pos rfl], hO, by omega⟩
set_option maxHeartbeats 1000000 in
set_option maxRecDepth 100000 in
theorem cs_nearest (t_now_cells : Nat → Int32) (t_now_rows : Nat → Int32) (t_now_sizes : Nat → Int32) (t_now_rooms : Nat → Int32) (t_now_told : Int32) (t_now_acts : Int32) (t_choices_rows_n : Nat) (t_choices_rows : Nat → Int64) (t_choices_size : Int32) (t_choices_ready : Int32) (t_choices_pool : Int32) (t_choices_plies : Int32) (t_choices_room : Int32) (m_mem : Nat → Int32) (m_row : Nat → Int32) (m_wide : Int32) (m_lost : Int32) (m_left : Nat → Int32) (m_mask : Int32) (m_mode : Int32) (m_wanted : Int32) (m_orders : Int32) (m_foundAt : Int32) (m_foundBy : Int64) (m_found : Nat → Int32) (m_seen : Nat → Int64) (m_unlikes : Int32) (t_now_numbers : Nat → Int32) (t_now_lines : Int32) (t_now_kinds : Int32) (m_acted : Int32) (m_past : Nat → Int32) (v1 : Int32) (hN : PN t_now_numbers t_now_cells t_now_rows t_now_sizes t_now_rooms t_now_told t_now_lines t_now_kinds t_now_acts m_mem m_acted m_past) (hO : PO t_now_cells t_choices_rows_n t_choices_rows t_choices_size t_choices_ready t_choices_pool t_choices_plies t_choices_room) : ∃ (lim0 : Nat) (r : Int32) (o_t_choices_rows_n : Nat) (o_t_choices_rows : Nat → Int64) (o_t_choices_size : Int32) (o_t_choices_ready : Int32) (o_t_choices_pool : Int32) (o_t_choices_plies : Int32) (o_t_choices_room : Int32) (o_m_row : Nat → Int32) (o_m_wide : Int32) (o_m_lost : Int32) (o_m_left : Nat → Int32) (o_m_mask : Int32) (o_m_mode : Int32) (o_m_wanted : Int32) (o_m_orders : Int32) (o_m_foundAt : Int32) (o_m_foundBy : Int64) (o_m_found : Nat → Int32) (o_m_seen : Nat → Int64) (o_m_unlikes : Int32), fX7_nearest lim0 t_now_cells t_now_rows t_now_sizes t_now_rooms t_now_told t_now_acts t_choices_rows_n t_choices_rows t_choices_size t_choices_ready t_choices_pool t_choices_plies t_choices_room v1 = some (r, o_t_choices_rows_n, o_t_choices_rows, o_t_choices_size, o_t_choices_ready, o_t_choices_pool, o_t_choices_plies, o_t_choices_room) ∧ fX8_nearest m_mem m_row m_wide m_lost m_left m_mask m_mode m_wanted m_orders m_foundAt m_foundBy m_found m_seen m_unlikes v1 = some (r, o_m_row, o_m_wide, o_m_lost, o_m_left, o_m_mask, o_m_mode, o_m_wanted, o_m_orders, o_m_foundAt, o_m_foundBy, o_m_found, o_m_seen, o_m_unlikes) ∧ PO t_now_cells o_t_choices_rows_n o_t_choices_rows o_t_choices_size o_t_choices_ready o_t_choices_pool o_t_choices_plies o_t_choices_room ∧ pot t_choices_rows_n + lim0 ≤ pot o_t_choices_rows_n := by
  rcases hN with hN | hN
  · obtain ⟨kn, a, l, rm, nb, rfl, rfl, rfl, rfl, h⟩ := hN.view
    have l8 := h.len
    by_cases c1 : 0 ≤ v1.toInt ∧ v1.toInt ≤ 7
    · have ask := asked_y h.is c1
      obtain ⟨q1, q2, m, hm, rfl⟩ := mask_y c1
      obtain ⟨lim0, rn, rw2, p1, p2, p3, p4⟩ := h.prep hO
      have n9 : (OL nb l rm m).length ≤ 40320 := by
        have := List.length_filter_le (fun x => soB (ceQ nb) x m) (ordL rm l)
        have := p2.1
        have := p2.2.1
        unfold OL
        omega
      obtain ⟨row2, left2, o2, fa2, fb2, fo2, se2, un2, g1, g2, g3, g4⟩ := h.mNear hm n9 m_row m_wide m_lost m_left m_mask m_mode m_wanted m_orders m_foundAt m_foundBy m_found m_seen m_unlikes
      obtain ⟨r, mo2, f1, f2⟩ := h.nearC p2 hm
      have bl := bI_lt (vN l) (OL nb l rm m) (OL nb l rm m).length (by omega)
      have fa := flt_all (ordL rm l) (fun x => soB (ceQ nb) x m)
      rcases f2 with ⟨x1, x2⟩ | ⟨p, x1, x2, x3, x4, x5⟩
      · rw [fa] at x1
        have n0 : (OL nb l rm m).length = 0 := by
          rcases bl with ⟨z, -⟩ | ⟨z1, z2⟩
          · exact z
          · have : bI (vN l) (OL nb l rm m) (OL nb l rm m).length = 99999 := x1
            omega
        exact ⟨lim0, -1, rn, rw2, _, _, _, _, _, row2, nI l.length, 0, left2, nI m, 4, 0, o2, fa2, fb2, fo2, se2, un2, by rw [fX7_nearest, q1, if_neg (by decide), p1, ob7_some, h.row, Option.bind_some, f1, Option.bind_some, if_pos x2], by rw [fX8_nearest, ask, Option.bind_some, if_neg (by decide), g1, ob14_some, if_pos (show o2 = 0 by rw [g2, n0]; rfl)], p3, p4⟩
      · rw [fa] at x4
        have x4' : bI (vN l) (OL nb l rm m) (OL nb l rm m).length = flt (ordL rm l) (fun x => soB (ceQ nb) x m) p := x4
        obtain ⟨a1, a2⟩ := flt_at (p := fun x => soB (ceQ nb) x m) x1 x3
        have a2' : (OL nb l rm m).getD (flt (ordL rm l) (fun x => soB (ceQ nb) x m) p) [] = (ordL rm l).getD p [] := a2
        have a1' : flt (ordL rm l) (fun x => soB (ceQ nb) x m) p < (OL nb l rm m).length := a1
        have p4' := p2.1
        have p5' := p2.2.1
        have n0 : ¬ nI (OL nb l rm m).length = 0 := nI_ne (b := 0) (by omega) (by omega) (by omega)
        have m1 : ¬ r = -1 := by rw [x2]; exact m1_ne (by omega)
        have h9 : ¬ bI (vN l) (OL nb l rm m) (OL nb l rm m).length = 99999 := by omega
        have fk : fa2 = nI (flt (ordL rm l) (fun x => soB (ceQ nb) x m) p) := by rw [g3, x4', rK, if_neg (by omega)]
        have fbv := g4 h9
        rw [x4', a2'] at fbv
        obtain ⟨t1, t2, t3⟩ := h.ordM _ (getD_memL x1)
        exact ⟨lim0, nI (unl l ((ordL rm l).getD p [])), rn, rw2, _, _, _, _, _, row2, nI l.length, 0, left2, nI m, 4, 0, o2, fa2, fb2, fo2, se2, un2, by rw [fX7_nearest, q1, if_neg (by decide), p1, ob7_some, h.row, Option.bind_some, f1, Option.bind_some, if_neg m1, x2, p2.row x1, Option.bind_some, Option.bind_some, h.plies, Option.bind_some, ← t1, unlikePlaces_pk t2 h.R t1.symm, Option.bind_some, unl_comm], by rw [fX8_nearest, ask, Option.bind_some, if_neg (by decide), g1, ob14_some, if_neg (show ¬ o2 = 0 by rw [g2]; exact n0), fbv, lN_i], p3, p4⟩
    · exact ⟨0, -2, t_choices_rows_n, t_choices_rows, t_choices_size, t_choices_ready, t_choices_pool, t_choices_plies, t_choices_room, m_row, m_wide, m_lost, m_left, m_mask, m_mode, m_wanted, m_orders, m_foundAt, m_foundBy, m_found, m_seen, m_unlikes, by rw [fX7_nearest, (mask_n c1).1, if_pos rfl], by rw [fX8_nearest, asked_n h.is c1, Option.bind_some, if_pos rfl], hO, by omega⟩
  · obtain ⟨rfl, h2, h3, h4, h5, h6, h7, h8, h9⟩ := id hN
    exact ⟨0, -2, t_choices_rows_n, t_choices_rows, t_choices_size, t_choices_ready, t_choices_pool, t_choices_plies, t_choices_room, m_row, m_wide, m_lost, m_left, m_mask, m_mode, m_wanted, m_orders, m_foundAt, m_foundBy, m_found, m_seen, m_unlikes, by rw [fX7_nearest, fX7_isMask, if_pos rfl, if_pos rfl], by rw [fX8_nearest, asked_0 (mIs0 (h9 3 (by omega))), Option.bind_some, if_pos rfl], hO, by omega⟩
set_option maxHeartbeats 1000000 in
set_option maxRecDepth 100000 in
theorem cs_nearestAt (t_now_cells : Nat → Int32) (t_now_rows : Nat → Int32) (t_now_sizes : Nat → Int32) (t_now_rooms : Nat → Int32) (t_now_told : Int32) (t_now_acts : Int32) (t_choices_rows_n : Nat) (t_choices_rows : Nat → Int64) (t_choices_size : Int32) (t_choices_ready : Int32) (t_choices_pool : Int32) (t_choices_plies : Int32) (t_choices_room : Int32) (m_mem : Nat → Int32) (m_row : Nat → Int32) (m_wide : Int32) (m_lost : Int32) (m_left : Nat → Int32) (m_mask : Int32) (m_mode : Int32) (m_wanted : Int32) (m_orders : Int32) (m_foundAt : Int32) (m_foundBy : Int64) (m_found : Nat → Int32) (m_seen : Nat → Int64) (m_unlikes : Int32) (t_now_numbers : Nat → Int32) (t_now_lines : Int32) (t_now_kinds : Int32) (m_acted : Int32) (m_past : Nat → Int32) (v1 : Int32) (hN : PN t_now_numbers t_now_cells t_now_rows t_now_sizes t_now_rooms t_now_told t_now_lines t_now_kinds t_now_acts m_mem m_acted m_past) (hO : PO t_now_cells t_choices_rows_n t_choices_rows t_choices_size t_choices_ready t_choices_pool t_choices_plies t_choices_room) : ∃ (lim0 : Nat) (r : Int32) (o_t_choices_rows_n : Nat) (o_t_choices_rows : Nat → Int64) (o_t_choices_size : Int32) (o_t_choices_ready : Int32) (o_t_choices_pool : Int32) (o_t_choices_plies : Int32) (o_t_choices_room : Int32) (o_m_row : Nat → Int32) (o_m_wide : Int32) (o_m_lost : Int32) (o_m_left : Nat → Int32) (o_m_mask : Int32) (o_m_mode : Int32) (o_m_wanted : Int32) (o_m_orders : Int32) (o_m_foundAt : Int32) (o_m_foundBy : Int64) (o_m_found : Nat → Int32) (o_m_seen : Nat → Int64) (o_m_unlikes : Int32), fX7_nearestAt lim0 t_now_cells t_now_rows t_now_sizes t_now_rooms t_now_told t_now_acts t_choices_rows_n t_choices_rows t_choices_size t_choices_ready t_choices_pool t_choices_plies t_choices_room v1 = some (r, o_t_choices_rows_n, o_t_choices_rows, o_t_choices_size, o_t_choices_ready, o_t_choices_pool, o_t_choices_plies, o_t_choices_room) ∧ fX8_nearestAt m_mem m_row m_wide m_lost m_left m_mask m_mode m_wanted m_orders m_foundAt m_foundBy m_found m_seen m_unlikes v1 = some (r, o_m_row, o_m_wide, o_m_lost, o_m_left, o_m_mask, o_m_mode, o_m_wanted, o_m_orders, o_m_foundAt, o_m_foundBy, o_m_found, o_m_seen, o_m_unlikes) ∧ PO t_now_cells o_t_choices_rows_n o_t_choices_rows o_t_choices_size o_t_choices_ready o_t_choices_pool o_t_choices_plies o_t_choices_room ∧ pot t_choices_rows_n + lim0 ≤ pot o_t_choices_rows_n := by
  rcases hN with hN | hN
  · obtain ⟨kn, a, l, rm, nb, rfl, rfl, rfl, rfl, h⟩ := hN.view
    have l8 := h.len
    by_cases c1 : 0 ≤ v1.toInt ∧ v1.toInt ≤ 7
    · have ask := asked_y h.is c1
      obtain ⟨q1, q2, m, hm, rfl⟩ := mask_y c1
      obtain ⟨lim0, rn, rw2, p1, p2, p3, p4⟩ := h.prep hO
      have n9 : (OL nb l rm m).length ≤ 40320 := by
        have := List.length_filter_le (fun x => soB (ceQ nb) x m) (ordL rm l)
        have := p2.1
        have := p2.2.1
        unfold OL
        omega
      obtain ⟨row2, left2, o2, fa2, fb2, fo2, se2, un2, g1, g2, g3, g4⟩ := h.mNear hm n9 m_row m_wide m_lost m_left m_mask m_mode m_wanted m_orders m_foundAt m_foundBy m_found m_seen m_unlikes
      obtain ⟨r, mo2, f1, f2⟩ := h.nearC p2 hm
      have bl := bI_lt (vN l) (OL nb l rm m) (OL nb l rm m).length (by omega)
      have fa := flt_all (ordL rm l) (fun x => soB (ceQ nb) x m)
      rcases f2 with ⟨x1, x2⟩ | ⟨p, x1, x2, x3, x4, x5⟩
      · rw [fa] at x1
        have n0 : (OL nb l rm m).length = 0 := by
          rcases bl with ⟨z, -⟩ | ⟨z1, z2⟩
          · exact z
          · have : bI (vN l) (OL nb l rm m) (OL nb l rm m).length = 99999 := x1
            omega
        exact ⟨lim0, -1, rn, rw2, _, _, _, _, _, row2, nI l.length, 0, left2, nI m, 4, 0, o2, fa2, fb2, fo2, se2, un2, by rw [fX7_nearestAt, q1, if_neg (by decide), p1, ob7_some, h.row, Option.bind_some, f1, Option.bind_some, if_pos x2], by rw [fX8_nearestAt, ask, Option.bind_some, if_neg (by decide), g1, ob14_some, if_pos (show o2 = 0 by rw [g2, n0]; rfl)], p3, p4⟩
      · rw [fa] at x4
        have x4' : bI (vN l) (OL nb l rm m) (OL nb l rm m).length = flt (ordL rm l) (fun x => soB (ceQ nb) x m) p := x4
        obtain ⟨a1, a2⟩ := flt_at (p := fun x => soB (ceQ nb) x m) x1 x3
        have a2' : (OL nb l rm m).getD (flt (ordL rm l) (fun x => soB (ceQ nb) x m) p) [] = (ordL rm l).getD p [] := a2
        have a1' : flt (ordL rm l) (fun x => soB (ceQ nb) x m) p < (OL nb l rm m).length := a1
        have p4' := p2.1
        have p5' := p2.2.1
        have n0 : ¬ nI (OL nb l rm m).length = 0 := nI_ne (b := 0) (by omega) (by omega) (by omega)
        have m1 : ¬ r = -1 := by rw [x2]; exact m1_ne (by omega)
        have h9 : ¬ bI (vN l) (OL nb l rm m) (OL nb l rm m).length = 99999 := by omega
        have fk : fa2 = nI (flt (ordL rm l) (fun x => soB (ceQ nb) x m) p) := by rw [g3, x4', rK, if_neg (by omega)]
        have fbv := g4 h9
        rw [x4', a2'] at fbv
        exact ⟨lim0, nI (flt (ordL rm l) (fun x => soB (ceQ nb) x m) p), rn, rw2, _, _, _, _, _, row2, nI l.length, 0, left2, nI m, 4, 0, o2, fa2, fb2, fo2, se2, un2, by rw [fX7_nearestAt, q1, if_neg (by decide), p1, ob7_some, h.row, Option.bind_some, f1, Option.bind_some, if_neg m1, x2, p2.place hm (by omega), Option.bind_some], by rw [fX8_nearestAt, ask, Option.bind_some, if_neg (by decide), g1, ob14_some, if_neg (show ¬ o2 = 0 by rw [g2]; exact n0), fk], p3, p4⟩
    · exact ⟨0, -2, t_choices_rows_n, t_choices_rows, t_choices_size, t_choices_ready, t_choices_pool, t_choices_plies, t_choices_room, m_row, m_wide, m_lost, m_left, m_mask, m_mode, m_wanted, m_orders, m_foundAt, m_foundBy, m_found, m_seen, m_unlikes, by rw [fX7_nearestAt, (mask_n c1).1, if_pos rfl], by rw [fX8_nearestAt, asked_n h.is c1, Option.bind_some, if_pos rfl], hO, by omega⟩
  · obtain ⟨rfl, h2, h3, h4, h5, h6, h7, h8, h9⟩ := id hN
    exact ⟨0, -2, t_choices_rows_n, t_choices_rows, t_choices_size, t_choices_ready, t_choices_pool, t_choices_plies, t_choices_room, m_row, m_wide, m_lost, m_left, m_mask, m_mode, m_wanted, m_orders, m_foundAt, m_foundBy, m_found, m_seen, m_unlikes, by rw [fX7_nearestAt, fX7_isMask, if_pos rfl, if_pos rfl], by rw [fX8_nearestAt, asked_0 (mIs0 (h9 3 (by omega))), Option.bind_some, if_pos rfl], hO, by omega⟩
set_option maxHeartbeats 1000000 in
set_option maxRecDepth 100000 in
theorem cs_unlike (t_now_cells : Nat → Int32) (t_now_rows : Nat → Int32) (t_now_sizes : Nat → Int32) (t_now_rooms : Nat → Int32) (t_now_told : Int32) (t_now_acts : Int32) (t_choices_rows_n : Nat) (t_choices_rows : Nat → Int64) (t_choices_seen_n : Nat) (t_choices_seen : Nat → Int64) (t_choices_size : Int32) (t_choices_ready : Int32) (t_choices_pool : Int32) (t_choices_plies : Int32) (t_choices_room : Int32) (m_mem : Nat → Int32) (m_row : Nat → Int32) (m_wide : Int32) (m_lost : Int32) (m_left : Nat → Int32) (m_mask : Int32) (m_mode : Int32) (m_wanted : Int32) (m_orders : Int32) (m_foundAt : Int32) (m_foundBy : Int64) (m_found : Nat → Int32) (m_seen : Nat → Int64) (m_unlikes : Int32) (t_now_numbers : Nat → Int32) (t_now_lines : Int32) (t_now_kinds : Int32) (m_acted : Int32) (m_past : Nat → Int32) (v1 : Int32) (hN : PN t_now_numbers t_now_cells t_now_rows t_now_sizes t_now_rooms t_now_told t_now_lines t_now_kinds t_now_acts m_mem m_acted m_past) (hO : PO t_now_cells t_choices_rows_n t_choices_rows t_choices_size t_choices_ready t_choices_pool t_choices_plies t_choices_room) (hS : PS t_choices_seen_n) : ∃ (lim0 : Nat) (lim1 : Nat) (r : Int32) (o_t_choices_rows_n : Nat) (o_t_choices_rows : Nat → Int64) (o_t_choices_seen_n : Nat) (o_t_choices_seen : Nat → Int64) (o_t_choices_size : Int32) (o_t_choices_ready : Int32) (o_t_choices_pool : Int32) (o_t_choices_plies : Int32) (o_t_choices_room : Int32) (o_m_row : Nat → Int32) (o_m_wide : Int32) (o_m_lost : Int32) (o_m_left : Nat → Int32) (o_m_mask : Int32) (o_m_mode : Int32) (o_m_wanted : Int32) (o_m_orders : Int32) (o_m_foundAt : Int32) (o_m_foundBy : Int64) (o_m_found : Nat → Int32) (o_m_seen : Nat → Int64) (o_m_unlikes : Int32), fX7_unlike lim0 lim1 t_now_cells t_now_rows t_now_sizes t_now_rooms t_now_told t_now_acts t_choices_rows_n t_choices_rows t_choices_seen_n t_choices_seen t_choices_size t_choices_ready t_choices_pool t_choices_plies t_choices_room v1 = some (r, o_t_choices_rows_n, o_t_choices_rows, o_t_choices_seen_n, o_t_choices_seen, o_t_choices_size, o_t_choices_ready, o_t_choices_pool, o_t_choices_plies, o_t_choices_room) ∧ fX8_unlike m_mem m_row m_wide m_lost m_left m_mask m_mode m_wanted m_orders m_foundAt m_foundBy m_found m_seen m_unlikes v1 = some (r, o_m_row, o_m_wide, o_m_lost, o_m_left, o_m_mask, o_m_mode, o_m_wanted, o_m_orders, o_m_foundAt, o_m_foundBy, o_m_found, o_m_seen, o_m_unlikes) ∧ PO t_now_cells o_t_choices_rows_n o_t_choices_rows o_t_choices_size o_t_choices_ready o_t_choices_pool o_t_choices_plies o_t_choices_room ∧ PS o_t_choices_seen_n ∧ pot t_choices_rows_n + lim0 ≤ pot o_t_choices_rows_n ∧ 2 * t_choices_seen_n + lim1 ≤ 2 * o_t_choices_seen_n := by
  rcases hN with hN | hN
  · obtain ⟨kn, a, l, rm, nb, rfl, rfl, rfl, rfl, h⟩ := hN.view
    have l8 := h.len
    by_cases c1 : 0 ≤ v1.toInt ∧ v1.toInt ≤ 7
    · have ask := asked_y h.is c1
      obtain ⟨q1, q2, m, hm, rfl⟩ := mask_y c1
      obtain ⟨lim0, rn, rw2, p1, p2, p3, p4⟩ := h.prep hO
      have n9 : (OL nb l rm m).length ≤ 40320 := by
        have := List.length_filter_le (fun x => soB (ceQ nb) x m) (ordL rm l)
        have := p2.1
        have := p2.2.1
        unfold OL
        omega
      obtain ⟨lim1, sn2, T2, u1, u2, u3⟩ := h.unlC p2 hm hS t_choices_seen
      obtain ⟨se0, s1, s2⟩ := clear_loop (mem := m_mem) (row := m_row) (left := m_left) (fo := m_found) (wide := m_wide) (lost := m_lost) (k0 := m_mask) (k1 := m_mode) (k2 := m_wanted) (k3 := m_orders) (k4 := m_foundAt) (un := m_unlikes) (v := nI m) (k5 := m_foundBy) 65536 FU 0 m_seen (by omega) (FU_gt (by omega)) (fun j hj => absurd hj (by omega))
      obtain ⟨row2, left2, o2, fa2, fb2, fo2, se2, un2, g1, g2, g3⟩ := h.mUnl hm n9 m_row m_wide m_lost m_left m_mask m_mode m_wanted m_orders m_foundAt m_foundBy m_found se0 s2
      refine ⟨lim0, lim1, nI (DK (kN nb) (OL nb l rm m) (OL nb l rm m).length).length, rn, rw2, sn2, T2, _, _, _, _, _, row2, nI l.length, 0, left2, nI m, 5, 0, o2, fa2, fb2, fo2, se2, un2, by rw [fX7_unlike, q1, if_neg (by decide), p1, ob7_some, u1, ob3_some]; rfl, ?_, p3, u2, p4, u3⟩
      rw [← lit_nI0] at s1
      rw [fX8_unlike, ask, Option.bind_some, if_neg (by decide), s1, fX8_unlike_32, g1, ob14_some, g3]
      by_cases e : (OL nb l rm m).length = 0
      · rw [if_pos (show o2 = 0 by rw [g2, e]; rfl), e]
        rfl
      · rw [if_neg (show ¬ o2 = 0 by rw [g2]; exact nI_ne (b := 0) e (by omega) (by omega))]
    · exact ⟨0, 0, -2, t_choices_rows_n, t_choices_rows, t_choices_seen_n, t_choices_seen, t_choices_size, t_choices_ready, t_choices_pool, t_choices_plies, t_choices_room, m_row, m_wide, m_lost, m_left, m_mask, m_mode, m_wanted, m_orders, m_foundAt, m_foundBy, m_found, m_seen, m_unlikes, by rw [fX7_unlike, (mask_n c1).1, if_pos rfl], by rw [fX8_unlike, asked_n h.is c1, Option.bind_some, if_pos rfl], hO, hS, by omega, by omega⟩
  · obtain ⟨rfl, h2, h3, h4, h5, h6, h7, h8, h9⟩ := id hN
    exact ⟨0, 0, -2, t_choices_rows_n, t_choices_rows, t_choices_seen_n, t_choices_seen, t_choices_size, t_choices_ready, t_choices_pool, t_choices_plies, t_choices_room, m_row, m_wide, m_lost, m_left, m_mask, m_mode, m_wanted, m_orders, m_foundAt, m_foundBy, m_found, m_seen, m_unlikes, by rw [fX7_unlike, fX7_isMask, if_pos rfl, if_pos rfl], by rw [fX8_unlike, asked_0 (mIs0 (h9 3 (by omega))), Option.bind_some, if_pos rfl], hO, hS, by omega, by omega⟩
set_option maxHeartbeats 1000000 in
set_option maxRecDepth 100000 in
theorem cs_thinner (t_now_cells : Nat → Int32) (t_now_rows : Nat → Int32) (t_now_sizes : Nat → Int32) (t_now_rooms : Nat → Int32) (t_now_told : Int32) (t_now_acts : Int32) (m_mem : Nat → Int32) (m_row : Nat → Int32) (m_wide : Int32) (m_lost : Int32) (t_now_numbers : Nat → Int32) (t_now_lines : Int32) (t_now_kinds : Int32) (m_acted : Int32) (m_past : Nat → Int32) (v1 : Int32) (v2 : Int32) (hN : PN t_now_numbers t_now_cells t_now_rows t_now_sizes t_now_rooms t_now_told t_now_lines t_now_kinds t_now_acts m_mem m_acted m_past) : ∃ (r : Int32) (o_m_row : Nat → Int32) (o_m_wide : Int32) (o_m_lost : Int32), fX7_thinner t_now_cells t_now_rows t_now_sizes t_now_rooms t_now_told t_now_acts v1 v2 = some r ∧ fX8_thinner m_mem m_row m_wide m_lost v1 v2 = some (r, o_m_row, o_m_wide, o_m_lost) := by
  rcases hN with hN | hN
  · obtain ⟨kn, a, l, rm, nb, rfl, rfl, rfl, rfl, h⟩ := hN.view
    have l8 := h.len
    have b9 := pow9 _ (hi_bit h.R)
    by_cases c1 : 0 ≤ v2.toInt ∧ v2.toInt ≤ 7
    · obtain ⟨q1, q2, m, hm, rfl⟩ := mask_y c1
      by_cases c2 : 1 ≤ v1.toInt ∧ v1.toInt ≤ l.length
      · obtain ⟨c, rfl, hc, -⟩ := int_nat (x := v1) (by omega)
        obtain ⟨r, row', wide', lost', x1, y1⟩ := h.thinner_loop hm (c := c) (by omega) (2 ^ l.length - 1) FU (FU - 1) 1 0 m_row m_wide m_lost (by omega) (FU_gt (by omega)) (by show _ < 99999; omega) (by omega)
        refine ⟨r, row', wide', lost', ?_, ?_⟩
        · rw [fX7_thinner, q1, if_neg (by decide), lit_nI1, if_lt_n (by omega) (by omega), h.plies, Option.bind_some, if_le_y (by omega) (by omega), fX6_thinnerSets, lit_nI0, lit_nI1, x1, Option.bind_some]
        · rw [fX8_thinner, asked_y h.is c1, Option.bind_some, if_neg (by decide), h.m2, mInSet (by omega), if_pos c2, if_neg (by decide), fX8_thinOf, show fX8_thinOf_6 FU = fX8_thinOf_6 ((FU - 1) + 1) from rfl, fX8_thinOf_6, h.m2, pw_nI _ (hi_bit h.R), lit_nI0, if_le_n (by omega) (by omega), bc 0 (by omega), if_eq_n (show ¬ pop 0 = c by rw [show pop 0 = 0 from rfl]; omega) (by have := pop_le8 0; omega) (by omega), fX8_thinOf_53, nI_s, y1, ob4_some]
      · refine ⟨-2, m_row, m_wide, m_lost, ?_, by rw [fX8_thinner, asked_y h.is c1, Option.bind_some, if_neg (by decide), h.m2, mInSet (by omega), if_neg c2, if_pos rfl]⟩
        rw [fX7_thinner, q1, if_neg (by decide), h.plies, Option.bind_some]
        exact out1n (by omega) c2
    · exact ⟨-2, m_row, m_wide, m_lost, by rw [fX7_thinner, (mask_n c1).1, if_pos rfl], by rw [fX8_thinner, asked_n h.is c1, Option.bind_some, if_pos rfl]⟩
  · obtain ⟨rfl, h2, h3, h4, h5, h6, h7, h8, h9⟩ := id hN
    exact ⟨-2, m_row, m_wide, m_lost, by simp only [fX7_thinner, fX7_isMask, if_true], by rw [fX8_thinner, asked_0 (mIs0 (h9 3 (by omega))), Option.bind_some, if_pos rfl]⟩
set_option maxHeartbeats 1000000 in
set_option maxRecDepth 100000 in
theorem cs_thin (t_now_cells : Nat → Int32) (t_now_rows : Nat → Int32) (t_now_sizes : Nat → Int32) (t_now_rooms : Nat → Int32) (t_now_told : Int32) (t_now_acts : Int32) (m_mem : Nat → Int32) (m_row : Nat → Int32) (m_wide : Int32) (m_lost : Int32) (t_now_numbers : Nat → Int32) (t_now_lines : Int32) (t_now_kinds : Int32) (m_acted : Int32) (m_past : Nat → Int32) (v1 : Int32) (v2 : Int32) (v3 : Int32) (hN : PN t_now_numbers t_now_cells t_now_rows t_now_sizes t_now_rooms t_now_told t_now_lines t_now_kinds t_now_acts m_mem m_acted m_past) : ∃ (r : Int32) (o_m_row : Nat → Int32) (o_m_wide : Int32) (o_m_lost : Int32), fX7_thin t_now_cells t_now_rows t_now_sizes t_now_rooms t_now_told t_now_acts v1 v2 v3 = some r ∧ fX8_thin m_mem m_row m_wide m_lost v1 v2 v3 = some (r, o_m_row, o_m_wide, o_m_lost) := by
  rcases hN with hN | hN
  · obtain ⟨kn, a, l, rm, nb, rfl, rfl, rfl, rfl, h⟩ := hN.view
    have l8 := h.len
    have b9 := pow9 _ (hi_bit h.R)
    by_cases c1 : 0 ≤ v2.toInt ∧ v2.toInt ≤ 7
    · obtain ⟨q1, q2, m, hm, rfl⟩ := mask_y c1
      by_cases c2 : 1 ≤ v1.toInt ∧ v1.toInt ≤ l.length
      · obtain ⟨c, rfl, hc, -⟩ := int_nat (x := v1) (by omega)
        by_cases c3 : 0 ≤ v3.toInt
        · have hv : ¬ v3 = -1 := fun q => by rw [q] at c3; exact absurd c3 (by decide)
          obtain ⟨r, row', wide', lost', x1, y1⟩ := h.thin_loop hm (c := c) (by omega) hv (2 ^ l.length - 1) FU (FU - 1) 1 0 m_row m_wide m_lost (by omega) (FU_gt (by omega)) (by show _ < 99999; omega) (by omega)
          refine ⟨r, row', wide', lost', ?_, ?_⟩
          · rw [fX7_thin, q1, if_neg (by decide), lit_nI1, if_lt_n (by omega) (by omega), h.plies, Option.bind_some, if_lt_n (by omega) (by omega), if_pos (show (0 : Int32) ≤ v3 from Int32.le_iff_toInt_le.mpr c3), fX6_thinnerSet, lit_nI0, lit_nI1, x1, Option.bind_some]
          · rw [fX8_thin, asked_y h.is c1, Option.bind_some, if_neg (by decide), h.m2, mInSet (by omega), if_pos c2, if_neg (by decide), if_neg (fun q => by have := (lt0_iff v3).mp q; omega), fX8_thinOf, show fX8_thinOf_6 FU = fX8_thinOf_6 ((FU - 1) + 1) from rfl, fX8_thinOf_6, h.m2, pw_nI _ (hi_bit h.R), lit_nI0, if_le_n (by omega) (by omega), bc 0 (by omega), if_eq_n (show ¬ pop 0 = c by rw [show pop 0 = 0 from rfl]; omega) (by have := pop_le8 0; omega) (by omega), fX8_thinOf_53, nI_s, y1, ob4_some]
        · exact ⟨-2, m_row, m_wide, m_lost, by rw [fX7_thin, q1, if_neg (by decide), lit_nI1, if_lt_n (by omega) (by omega), h.plies, Option.bind_some, if_lt_n (by omega) (by omega), if_neg (show ¬ (0 : Int32) ≤ v3 from fun q => c3 (Int32.le_iff_toInt_le.mp q))], by rw [fX8_thin, asked_y h.is c1, Option.bind_some, if_neg (by decide), h.m2, mInSet (by omega), if_pos c2, if_neg (by decide), if_pos ((lt0_iff v3).mpr (by omega))]⟩
      · refine ⟨-2, m_row, m_wide, m_lost, ?_, by rw [fX8_thin, asked_y h.is c1, Option.bind_some, if_neg (by decide), h.m2, mInSet (by omega), if_neg c2, if_pos rfl]⟩
        rw [fX7_thin, q1, if_neg (by decide), h.plies, Option.bind_some]
        by_cases d : v1.toInt < 1
        · rw [if_pos (show v1 < 1 from (lt_nI (n := 1) (by omega)).mpr d)]
        · rw [if_neg (show ¬ v1 < 1 from fun q => d ((lt_nI (n := 1) (by omega)).mp q)), if_pos]
          rw [Int32.lt_iff_toInt_lt, nI_int (by omega)]
          omega
    · exact ⟨-2, m_row, m_wide, m_lost, by rw [fX7_thin, (mask_n c1).1, if_pos rfl], by rw [fX8_thin, asked_n h.is c1, Option.bind_some, if_pos rfl]⟩
  · obtain ⟨rfl, h2, h3, h4, h5, h6, h7, h8, h9⟩ := id hN
    exact ⟨-2, m_row, m_wide, m_lost, by simp only [fX7_thin, fX7_isMask, if_true], by rw [fX8_thin, asked_0 (mIs0 (h9 3 (by omega))), Option.bind_some, if_pos rfl]⟩
set_option maxHeartbeats 1000000 in
set_option maxRecDepth 100000 in
theorem cs_blend (t_now_cells : Nat → Int32) (t_now_rows : Nat → Int32) (t_now_sizes : Nat → Int32) (t_now_rooms : Nat → Int32) (t_now_told : Int32) (t_now_acts : Int32) (t_ways_depths : Nat → Int32) (t_ways_all : Int32) (t_ways_stride : Int32) (m_mem : Nat → Int32) (m_row : Nat → Int32) (m_wide : Int32) (m_lost : Int32) (m_steps : Nat → Int32) (t_now_numbers : Nat → Int32) (t_now_lines : Int32) (t_now_kinds : Int32) (m_acted : Int32) (m_past : Nat → Int32) (v1 : Int32) (v2 : Int32) (hN : PN t_now_numbers t_now_cells t_now_rows t_now_sizes t_now_rooms t_now_told t_now_lines t_now_kinds t_now_acts m_mem m_acted m_past) : ∃ (r : Int32) (o_t_ways_depths : Nat → Int32) (o_t_ways_all : Int32) (o_t_ways_stride : Int32) (o_m_row : Nat → Int32) (o_m_wide : Int32) (o_m_lost : Int32) (o_m_steps : Nat → Int32), fX7_blend t_now_cells t_now_rows t_now_sizes t_now_rooms t_now_told t_now_acts t_ways_depths t_ways_all t_ways_stride v1 v2 = some (r, o_t_ways_depths, o_t_ways_all, o_t_ways_stride) ∧ fX8_blend m_mem m_row m_wide m_lost m_steps v1 v2 = some (r, o_m_row, o_m_wide, o_m_lost, o_m_steps) := by
  rcases hN with hN | hN
  · obtain ⟨kn, a, l, rm, nb, rfl, rfl, rfl, rfl, h⟩ := hN.view
    have b9 := pow9 _ (hi_bit h.R)
    by_cases c1 : (0 ≤ v1.toInt ∧ v1.toInt ≤ 7) ∧ (1 ≤ v2.toInt ∧ v2.toInt ≤ 3)
    · have wy := way_y h.is c1.1 c1.2
      obtain ⟨q1, q2, m, hm, rfl⟩ := mask_y c1.1
      obtain ⟨q3, d, d1, hd, rfl⟩ := stride_y c1.2
      obtain ⟨dep2, x1, x2⟩ := h.expC hm hd rfl t_ways_depths t_ways_all t_ways_stride
      obtain ⟨row', wide', lost', stp2, y1, y2⟩ := h.expM hm hd rfl m_row m_wide m_lost m_steps
      obtain ⟨g1, g2⟩ := goal_loop (all := 2 ^ l.length - 1) (by omega) (fun x hx => ST_ok (by omega) hx) x2 y2 h.mall (2 ^ l.length) FU FU 0 999 (by omega) (FU_gt (by omega)) (FU_gt (by omega)) (Or.inr rfl) (Or.inl rfl)
      have gl := glL_lt (F := ST (TH nb l rm m) (2 ^ l.length - 1) d) (N := 2 ^ l.length) (2 ^ l.length) 0 999 (by omega) (Or.inr rfl) (Or.inl rfl)
      generalize glL (ST (TH nb l rm m) (2 ^ l.length - 1) d) (2 ^ l.length) 0 999 = g at g1 g2 gl
      have g1' : fX6_goal dep2 (nI (2 ^ l.length - 1)) = some (rJ g) := g1
      have g2' : fX8_goal m_mem stp2 = some (rJ g) := g2
      by_cases e : g = 999
      · have r1 := (rJ_m1 (b := g) (by omega)).mpr e
        exact ⟨-1, dep2, nI (2 ^ l.length - 1), nI d, row', wide', lost', stp2, by rw [fX7_blend, q1, if_neg (by decide), q3, if_neg (by decide), x1, ob3_some, g1', Option.bind_some, if_pos r1], by rw [fX8_blend, wy, Option.bind_some, if_neg (by decide), y1, ob4_some, g2', Option.bind_some, if_pos r1]⟩
      · have r1 := fun q => e ((rJ_m1 (b := g) (by omega)).mp q)
        have r2 : rJ g = nI g := by unfold rJ; rw [if_neg e]
        have so := ST_ok (th := TH nb l rm m) (d := d) (show 2 ^ l.length - 1 < 256 by omega) (show g ≤ 2 ^ l.length - 1 by omega)
        have xg := x2 g (by omega)
        rw [cvn (by omega)] at xg
        have yg := y2 g (by omega)
        exact ⟨fJ6_bitCount_0f7a4 (rJ g), dep2, nI (2 ^ l.length - 1), nI d, row', wide', lost', stp2, by rw [fX7_blend, q1, if_neg (by decide), q3, if_neg (by decide), x1, ob3_some, g1', Option.bind_some, if_neg r1], by rw [fX8_blend, wy, Option.bind_some, if_neg (by decide), y1, ob4_some, g2', Option.bind_some, if_neg r1, Option.bind_some]⟩
    · have wn := way_n h.is c1
      refine ⟨-2, t_ways_depths, t_ways_all, t_ways_stride, m_row, m_wide, m_lost, m_steps, ?_, by rw [fX8_blend, wn, Option.bind_some, if_pos rfl]⟩
      rw [fX7_blend]
      by_cases c : 0 ≤ v1.toInt ∧ v1.toInt ≤ 7
      · rw [(mask_y c).1, if_neg (by decide), stride_n (fun q => c1 ⟨c, q⟩), if_pos rfl]
      · rw [(mask_n c).1, if_pos rfl]
  · obtain ⟨rfl, h2, h3, h4, h5, h6, h7, h8, h9⟩ := id hN
    exact ⟨-2, t_ways_depths, t_ways_all, t_ways_stride, m_row, m_wide, m_lost, m_steps, by simp only [fX7_blend, fX7_isMask, if_true], by rw [fX8_blend, way_0 (mIs0 (h9 3 (by omega))), Option.bind_some, if_pos rfl]⟩
set_option maxHeartbeats 1000000 in
set_option maxRecDepth 100000 in
theorem cs_blends (t_now_cells : Nat → Int32) (t_now_rows : Nat → Int32) (t_now_sizes : Nat → Int32) (t_now_rooms : Nat → Int32) (t_now_told : Int32) (t_now_acts : Int32) (t_ways_depths : Nat → Int32) (t_ways_all : Int32) (t_ways_stride : Int32) (m_mem : Nat → Int32) (m_row : Nat → Int32) (m_wide : Int32) (m_lost : Int32) (m_steps : Nat → Int32) (t_now_numbers : Nat → Int32) (t_now_lines : Int32) (t_now_kinds : Int32) (m_acted : Int32) (m_past : Nat → Int32) (v1 : Int32) (v2 : Int32) (hN : PN t_now_numbers t_now_cells t_now_rows t_now_sizes t_now_rooms t_now_told t_now_lines t_now_kinds t_now_acts m_mem m_acted m_past) : ∃ (r : Int32) (o_t_ways_depths : Nat → Int32) (o_t_ways_all : Int32) (o_t_ways_stride : Int32) (o_m_row : Nat → Int32) (o_m_wide : Int32) (o_m_lost : Int32) (o_m_steps : Nat → Int32), fX7_blends t_now_cells t_now_rows t_now_sizes t_now_rooms t_now_told t_now_acts t_ways_depths t_ways_all t_ways_stride v1 v2 = some (r, o_t_ways_depths, o_t_ways_all, o_t_ways_stride) ∧ fX8_blends m_mem m_row m_wide m_lost m_steps v1 v2 = some (r, o_m_row, o_m_wide, o_m_lost, o_m_steps) := by
  rcases hN with hN | hN
  · obtain ⟨kn, a, l, rm, nb, rfl, rfl, rfl, rfl, h⟩ := hN.view
    have b9 := pow9 _ (hi_bit h.R)
    by_cases c1 : (0 ≤ v1.toInt ∧ v1.toInt ≤ 7) ∧ (1 ≤ v2.toInt ∧ v2.toInt ≤ 3)
    · have wy := way_y h.is c1.1 c1.2
      obtain ⟨q1, q2, m, hm, rfl⟩ := mask_y c1.1
      obtain ⟨q3, d, d1, hd, rfl⟩ := stride_y c1.2
      obtain ⟨dep2, x1, x2⟩ := h.expC hm hd rfl t_ways_depths t_ways_all t_ways_stride
      obtain ⟨row', wide', lost', stp2, y1, y2⟩ := h.expM hm hd rfl m_row m_wide m_lost m_steps
      obtain ⟨g1, g2⟩ := goal_loop (all := 2 ^ l.length - 1) (by omega) (fun x hx => ST_ok (by omega) hx) x2 y2 h.mall (2 ^ l.length) FU FU 0 999 (by omega) (FU_gt (by omega)) (FU_gt (by omega)) (Or.inr rfl) (Or.inl rfl)
      have gl := glL_lt (F := ST (TH nb l rm m) (2 ^ l.length - 1) d) (N := 2 ^ l.length) (2 ^ l.length) 0 999 (by omega) (Or.inr rfl) (Or.inl rfl)
      generalize glL (ST (TH nb l rm m) (2 ^ l.length - 1) d) (2 ^ l.length) 0 999 = g at g1 g2 gl
      have g1' : fX6_goal dep2 (nI (2 ^ l.length - 1)) = some (rJ g) := g1
      have g2' : fX8_goal m_mem stp2 = some (rJ g) := g2
      by_cases e : g = 999
      · have r1 := (rJ_m1 (b := g) (by omega)).mpr e
        exact ⟨-1, dep2, nI (2 ^ l.length - 1), nI d, row', wide', lost', stp2, by rw [fX7_blends, q1, if_neg (by decide), q3, if_neg (by decide), x1, ob3_some, g1', Option.bind_some, if_pos r1], by rw [fX8_blends, wy, Option.bind_some, if_neg (by decide), y1, ob4_some, g2', Option.bind_some, if_pos r1]⟩
      · have r1 := fun q => e ((rJ_m1 (b := g) (by omega)).mp q)
        have r2 : rJ g = nI g := by unfold rJ; rw [if_neg e]
        have so := ST_ok (th := TH nb l rm m) (d := d) (show 2 ^ l.length - 1 < 256 by omega) (show g ≤ 2 ^ l.length - 1 by omega)
        have xg := x2 g (by omega)
        rw [cvn (by omega)] at xg
        have yg := y2 g (by omega)
        exact ⟨nI (ST (TH nb l rm m) (2 ^ l.length - 1) d g) + 1, dep2, nI (2 ^ l.length - 1), nI d, row', wide', lost', stp2, by rw [fX7_blends, q1, if_neg (by decide), q3, if_neg (by decide), x1, ob3_some, g1', Option.bind_some, if_neg r1, r2, cSteps (by omega), Option.bind_some, xg], by rw [fX8_blends, wy, Option.bind_some, if_neg (by decide), y1, ob4_some, g2', Option.bind_some, if_neg r1, Option.bind_some, r2, chkN (by omega) (by omega), nI_clamp' (by omega), yg]⟩
    · have wn := way_n h.is c1
      refine ⟨-2, t_ways_depths, t_ways_all, t_ways_stride, m_row, m_wide, m_lost, m_steps, ?_, by rw [fX8_blends, wn, Option.bind_some, if_pos rfl]⟩
      rw [fX7_blends]
      by_cases c : 0 ≤ v1.toInt ∧ v1.toInt ≤ 7
      · rw [(mask_y c).1, if_neg (by decide), stride_n (fun q => c1 ⟨c, q⟩), if_pos rfl]
      · rw [(mask_n c).1, if_pos rfl]
  · obtain ⟨rfl, h2, h3, h4, h5, h6, h7, h8, h9⟩ := id hN
    exact ⟨-2, t_ways_depths, t_ways_all, t_ways_stride, m_row, m_wide, m_lost, m_steps, by simp only [fX7_blends, fX7_isMask, if_true], by rw [fX8_blends, way_0 (mIs0 (h9 3 (by omega))), Option.bind_some, if_pos rfl]⟩
set_option maxHeartbeats 1000000 in
set_option maxRecDepth 100000 in
theorem cs_comes (t_now_cells : Nat → Int32) (t_now_rows : Nat → Int32) (t_now_sizes : Nat → Int32) (t_now_rooms : Nat → Int32) (t_now_told : Int32) (t_now_acts : Int32) (t_ways_depths : Nat → Int32) (t_ways_all : Int32) (t_ways_stride : Int32) (m_mem : Nat → Int32) (m_row : Nat → Int32) (m_wide : Int32) (m_lost : Int32) (m_steps : Nat → Int32) (t_now_numbers : Nat → Int32) (t_now_lines : Int32) (t_now_kinds : Int32) (m_acted : Int32) (m_past : Nat → Int32) (v1 : Int32) (v2 : Int32) (v3 : Int32) (hN : PN t_now_numbers t_now_cells t_now_rows t_now_sizes t_now_rooms t_now_told t_now_lines t_now_kinds t_now_acts m_mem m_acted m_past) : ∃ (r : Int32) (o_t_ways_depths : Nat → Int32) (o_t_ways_all : Int32) (o_t_ways_stride : Int32) (o_m_row : Nat → Int32) (o_m_wide : Int32) (o_m_lost : Int32) (o_m_steps : Nat → Int32), fX7_comes t_now_cells t_now_rows t_now_sizes t_now_rooms t_now_told t_now_acts t_ways_depths t_ways_all t_ways_stride v1 v2 v3 = some (r, o_t_ways_depths, o_t_ways_all, o_t_ways_stride) ∧ fX8_comes m_mem m_row m_wide m_lost m_steps v1 v2 v3 = some (r, o_m_row, o_m_wide, o_m_lost, o_m_steps) := by
  rcases hN with hN | hN
  · obtain ⟨kn, a, l, rm, nb, rfl, rfl, rfl, rfl, h⟩ := hN.view
    have b9 := pow9 _ (hi_bit h.R)
    by_cases c1 : (0 ≤ v1.toInt ∧ v1.toInt ≤ 7) ∧ (1 ≤ v2.toInt ∧ v2.toInt ≤ 3)
    · have wy := way_y h.is c1.1 c1.2
      obtain ⟨q1, q2, m, hm, rfl⟩ := mask_y c1.1
      obtain ⟨q3, d, d1, hd, rfl⟩ := stride_y c1.2
      by_cases c2 : 1 ≤ v3.toInt ∧ v3.toInt ≤ (2 ^ l.length - 1 : Nat)
      · obtain ⟨dep2, x1, x2⟩ := h.expC hm hd rfl t_ways_depths t_ways_all t_ways_stride
        obtain ⟨row', wide', lost', stp2, y1, y2⟩ := h.expM hm hd rfl m_row m_wide m_lost m_steps
        obtain ⟨g, rfl, hg, -⟩ := int_nat (x := v3) (by omega)
        have so := ST_ok (th := TH nb l rm m) (d := d) (show 2 ^ l.length - 1 < 256 by omega) (show g ≤ 2 ^ l.length - 1 by omega)
        have xg := x2 g (by omega)
        have yg := y2 g (by omega)
        by_cases e : ST (TH nb l rm m) (2 ^ l.length - 1) d g = 100
        · exact ⟨0, dep2, nI (2 ^ l.length - 1), nI d, row', wide', lost', stp2, by rw [fX7_comes, q1, if_neg (by decide), q3, if_neg (by decide), h.cset, Option.bind_some, if_pos c2, if_neg (by decide), x1, ob3_some, cSteps (by omega), Option.bind_some, xg, if_pos ((cv_m1 (by omega)).mpr e)], by rw [fX8_comes, wy, Option.bind_some, if_neg (by decide), h.mall, Option.bind_some, mInSet (by omega), if_pos c2, if_neg (by decide), y1, ob4_some, chkN (by omega) (by omega), nI_clamp' (by omega), yg, show (100 : Int32) = nI 100 from rfl, if_le_y (by omega) (by omega)]⟩
        · exact ⟨1, dep2, nI (2 ^ l.length - 1), nI d, row', wide', lost', stp2, by rw [fX7_comes, q1, if_neg (by decide), q3, if_neg (by decide), h.cset, Option.bind_some, if_pos c2, if_neg (by decide), x1, ob3_some, cSteps (by omega), Option.bind_some, xg, if_neg (fun q => e ((cv_m1 (by omega)).mp q))], by rw [fX8_comes, wy, Option.bind_some, if_neg (by decide), h.mall, Option.bind_some, mInSet (by omega), if_pos c2, if_neg (by decide), y1, ob4_some, chkN (by omega) (by omega), nI_clamp' (by omega), yg, show (100 : Int32) = nI 100 from rfl, if_le_n (by omega) (by omega)]⟩
      · exact ⟨-2, t_ways_depths, t_ways_all, t_ways_stride, m_row, m_wide, m_lost, m_steps, by rw [fX7_comes, q1, if_neg (by decide), q3, if_neg (by decide), h.cset, Option.bind_some, if_neg c2, if_pos rfl], by rw [fX8_comes, wy, Option.bind_some, if_neg (by decide), h.mall, Option.bind_some, mInSet (by omega), if_neg c2, if_pos rfl]⟩
    · have wn := way_n h.is c1
      refine ⟨-2, t_ways_depths, t_ways_all, t_ways_stride, m_row, m_wide, m_lost, m_steps, ?_, by rw [fX8_comes, wn, Option.bind_some, if_pos rfl]⟩
      rw [fX7_comes]
      by_cases c : 0 ≤ v1.toInt ∧ v1.toInt ≤ 7
      · rw [(mask_y c).1, if_neg (by decide), stride_n (fun q => c1 ⟨c, q⟩), if_pos rfl]
      · rw [(mask_n c).1, if_pos rfl]
  · obtain ⟨rfl, h2, h3, h4, h5, h6, h7, h8, h9⟩ := id hN
    exact ⟨-2, t_ways_depths, t_ways_all, t_ways_stride, m_row, m_wide, m_lost, m_steps, by simp only [fX7_comes, fX7_isMask, if_true], by rw [fX8_comes, way_0 (mIs0 (h9 3 (by omega))), Option.bind_some, if_pos rfl]⟩
set_option maxHeartbeats 1000000 in
set_option maxRecDepth 100000 in
theorem cs_step (t_now_cells : Nat → Int32) (t_now_rows : Nat → Int32) (t_now_sizes : Nat → Int32) (t_now_rooms : Nat → Int32) (t_now_told : Int32) (t_now_acts : Int32) (t_ways_depths : Nat → Int32) (t_ways_all : Int32) (t_ways_stride : Int32) (m_mem : Nat → Int32) (m_row : Nat → Int32) (m_wide : Int32) (m_lost : Int32) (m_steps : Nat → Int32) (t_now_numbers : Nat → Int32) (t_now_lines : Int32) (t_now_kinds : Int32) (m_acted : Int32) (m_past : Nat → Int32) (v1 : Int32) (v2 : Int32) (v3 : Int32) (hN : PN t_now_numbers t_now_cells t_now_rows t_now_sizes t_now_rooms t_now_told t_now_lines t_now_kinds t_now_acts m_mem m_acted m_past) : ∃ (r : Int32) (o_t_ways_depths : Nat → Int32) (o_t_ways_all : Int32) (o_t_ways_stride : Int32) (o_m_row : Nat → Int32) (o_m_wide : Int32) (o_m_lost : Int32) (o_m_steps : Nat → Int32), fX7_step t_now_cells t_now_rows t_now_sizes t_now_rooms t_now_told t_now_acts t_ways_depths t_ways_all t_ways_stride v1 v2 v3 = some (r, o_t_ways_depths, o_t_ways_all, o_t_ways_stride) ∧ fX8_step m_mem m_row m_wide m_lost m_steps v1 v2 v3 = some (r, o_m_row, o_m_wide, o_m_lost, o_m_steps) := by
  rcases hN with hN | hN
  · obtain ⟨kn, a, l, rm, nb, rfl, rfl, rfl, rfl, h⟩ := hN.view
    have b9 := pow9 _ (hi_bit h.R)
    by_cases c1 : (0 ≤ v1.toInt ∧ v1.toInt ≤ 7) ∧ (1 ≤ v2.toInt ∧ v2.toInt ≤ 3)
    · have wy := way_y h.is c1.1 c1.2
      obtain ⟨q1, q2, m, hm, rfl⟩ := mask_y c1.1
      obtain ⟨q3, d, d1, hd, rfl⟩ := stride_y c1.2
      by_cases c2 : 0 ≤ v3.toInt
      · have v0 : (0 : Int32) ≤ v3 := Int32.le_iff_toInt_le.mpr c2
        obtain ⟨dep2, x1, x2⟩ := h.expC hm hd rfl t_ways_depths t_ways_all t_ways_stride
        obtain ⟨row', wide', lost', stp2, y1, y2⟩ := h.expM hm hd rfl m_row m_wide m_lost m_steps
        obtain ⟨g1, g2⟩ := goal_loop (all := 2 ^ l.length - 1) (by omega) (fun x hx => ST_ok (by omega) hx) x2 y2 h.mall (2 ^ l.length) FU FU 0 999 (by omega) (FU_gt (by omega)) (FU_gt (by omega)) (Or.inr rfl) (Or.inl rfl)
        have gl := glL_lt (F := ST (TH nb l rm m) (2 ^ l.length - 1) d) (N := 2 ^ l.length) (2 ^ l.length) 0 999 (by omega) (Or.inr rfl) (Or.inl rfl)
        generalize glL (ST (TH nb l rm m) (2 ^ l.length - 1) d) (2 ^ l.length) 0 999 = g at g1 g2 gl
        have g1' : fX6_goal dep2 (nI (2 ^ l.length - 1)) = some (rJ g) := g1
        have g2' : fX8_goal m_mem stp2 = some (rJ g) := g2
        have x3 : fX7_step t_now_cells t_now_rows t_now_sizes t_now_rooms 1 (nI a) t_ways_depths t_ways_all t_ways_stride (nI m) (nI d) v3 = (fX6_onTheWay dep2 (nI (2 ^ l.length - 1)) (nI d) v3).bind fun r11 => some (r11, dep2, nI (2 ^ l.length - 1), nI d) := by
          rw [fX7_step, q1, if_neg (by decide), q3, if_neg (by decide), if_pos v0, x1, ob3_some]
        rw [fX6_onTheWay, g1', Option.bind_some] at x3
        have y3 : fX8_step m_mem m_row m_wide m_lost m_steps (nI m) (nI d) v3 = (if rJ g = (-1) then some ((-1), row', wide', lost', stp2) else chk 256 (rJ g) ((if v3 ≤ (stp2 (rJ g).toNatClampNeg) then fX8_step_47 FU row' wide' lost' stp2 (nI d) v3 (rJ g) else some ((-1), row', wide', lost', stp2)))) := by
          rw [fX8_step, wy, Option.bind_some, if_neg (by decide), if_pos v0, y1, ob4_some, g2', Option.bind_some]
        by_cases e : g = 999
        · have r1 := (rJ_m1 (b := g) (by omega)).mpr e
          rw [if_pos r1, Option.bind_some] at x3
          rw [if_pos r1] at y3
          exact ⟨_, _, _, _, _, _, _, _, x3, y3⟩
        · have r1 := fun q => e ((rJ_m1 (b := g) (by omega)).mp q)
          have r2 : rJ g = nI g := by unfold rJ; rw [if_neg e]
          have so := ST_ok (th := TH nb l rm m) (d := d) (show 2 ^ l.length - 1 < 256 by omega) (show g ≤ 2 ^ l.length - 1 by omega)
          have xg := x2 g (by omega)
          rw [cvn (by omega)] at xg
          have yg := y2 g (by omega)
          obtain ⟨i, rfl, hi, -⟩ := int_nat c2
          rw [if_neg r1, r2, cSteps (by omega), Option.bind_some, xg, Option.bind_some] at x3
          rw [if_neg r1, r2, chkN (by omega) (by omega), nI_clamp' (by omega), yg] at y3
          have i31 : i < 2147483648 := by have := (nI i).toInt_lt; omega
          by_cases f : i ≤ ST (TH nb l rm m) (2 ^ l.length - 1) d g
          · obtain ⟨r, w1, w2⟩ := way_loop (row := row') (wide := wide') (lost := lost') (i := i) (show 2 ^ l.length - 1 < 256 by omega) hd x2 y2 (ST (TH nb l rm m) (2 ^ l.length - 1) d g - i) FU FU g (by omega) (by omega) (by omega) (FU_gt (by omega)) (FU_gt (by omega))
            rw [show i + (ST (TH nb l rm m) (2 ^ l.length - 1) d g - i) = ST (TH nb l rm m) (2 ^ l.length - 1) d g by omega] at w1
            rw [if_le_y f (by omega), w1, Option.bind_some] at x3
            rw [if_le_y f (by omega), w2] at y3
            exact ⟨_, _, _, _, _, _, _, _, x3, y3⟩
          · rw [if_le_n (by omega) (by omega), Option.bind_some] at x3
            rw [if_le_n (by omega) (by omega)] at y3
            exact ⟨_, _, _, _, _, _, _, _, x3, y3⟩
      · have v0 : ¬ (0 : Int32) ≤ v3 := fun q => c2 (Int32.le_iff_toInt_le.mp q)
        exact ⟨-2, t_ways_depths, t_ways_all, t_ways_stride, m_row, m_wide, m_lost, m_steps, by rw [fX7_step, q1, if_neg (by decide), q3, if_neg (by decide), if_neg v0], by rw [fX8_step, wy, Option.bind_some, if_neg (by decide), if_neg v0]⟩
    · have wn := way_n h.is c1
      refine ⟨-2, t_ways_depths, t_ways_all, t_ways_stride, m_row, m_wide, m_lost, m_steps, ?_, by rw [fX8_step, wn, Option.bind_some, if_pos rfl]⟩
      rw [fX7_step]
      by_cases c : 0 ≤ v1.toInt ∧ v1.toInt ≤ 7
      · rw [(mask_y c).1, if_neg (by decide), stride_n (fun q => c1 ⟨c, q⟩), if_pos rfl]
      · rw [(mask_n c).1, if_pos rfl]
  · obtain ⟨rfl, h2, h3, h4, h5, h6, h7, h8, h9⟩ := id hN
    exact ⟨-2, t_ways_depths, t_ways_all, t_ways_stride, m_row, m_wide, m_lost, m_steps, by simp only [fX7_step, fX7_isMask, if_true], by rw [fX8_step, way_0 (mIs0 (h9 3 (by omega))), Option.bind_some, if_pos rfl]⟩
set_option maxHeartbeats 1000000 in
set_option maxRecDepth 100000 in
theorem cs_frail (t_now_numbers : Nat → Int32) (t_now_cells : Nat → Int32) (t_now_rows : Nat → Int32) (t_now_sizes : Nat → Int32) (t_now_told : Int32) (t_now_acts : Int32) (t_stress_cells : Nat → Int64) (t_stress_parts : Nat → Int64) (t_stress_det : Int64) (m_mem : Nat → Int32) (m_row : Nat → Int32) (m_wide : Int32) (m_lost : Int32) (m_strain : Nat → Int64) (m_det : Int64) (t_now_rooms : Nat → Int32) (t_now_lines : Int32) (t_now_kinds : Int32) (m_acted : Int32) (m_past : Nat → Int32) (v1 : Int32) (v2 : Int32) (v3 : Int32) (hN : PN t_now_numbers t_now_cells t_now_rows t_now_sizes t_now_rooms t_now_told t_now_lines t_now_kinds t_now_acts m_mem m_acted m_past) : ∃ (r : Int32) (o_t_stress_cells : Nat → Int64) (o_t_stress_parts : Nat → Int64) (o_t_stress_det : Int64) (o_m_row : Nat → Int32) (o_m_wide : Int32) (o_m_lost : Int32) (o_m_strain : Nat → Int64) (o_m_det : Int64), fX7_frail t_now_numbers t_now_cells t_now_rows t_now_sizes t_now_told t_now_acts t_stress_cells t_stress_parts t_stress_det v1 v2 v3 = some (r, o_t_stress_cells, o_t_stress_parts, o_t_stress_det) ∧ fX8_frail m_mem m_row m_wide m_lost m_strain m_det v1 v2 v3 = some (r, o_m_row, o_m_wide, o_m_lost, o_m_strain, o_m_det) := by
  rcases hN with hN | hN
  · obtain ⟨kn, a, l, rm, nb, rfl, rfl, rfl, rfl, h⟩ := hN.view
    by_cases c1 : ld v1 ∧ ld v2 ∧ ld v3
    · have hL := loads_y c1.1 c1.2.1 c1.2.2
      obtain ⟨r, cl2, p2, d2, row', wide', lost2, st2, dt2, hr, x1, y1⟩ := h.frail c1.1 c1.2.1 c1.2.2 t_stress_cells t_stress_parts t_stress_det m_row m_wide m_lost m_strain m_det
      have z : (0 : Int32) ≤ nI r := (nI_le' (a := 0) (by omega) (by omega)).mpr (by omega)
      exact ⟨fJ6_bitCount_0f7a4 (nI r), cl2, p2, d2, row', wide', lost2, st2, dt2, by rw [fX7_frail, fX7_frailSet, hL.1, if_neg (by decide), x1, ob4_some, ob4_some, if_pos z], by rw [fX8_frail, h.is, Option.bind_some, if_neg (by decide), hL.2, if_neg (by decide), y1, ob6_some]⟩
    · have hL := loads_n c1
      exact ⟨-2, t_stress_cells, t_stress_parts, t_stress_det, m_row, m_wide, m_lost, m_strain, m_det, by rw [fX7_frail, fX7_frailSet, hL.1, if_pos rfl, ob4_some, if_neg (by decide)], by rw [fX8_frail, h.is, Option.bind_some, if_neg (by decide), hL.2, if_pos rfl]⟩
  · obtain ⟨rfl, h2, h3, h4, h5, h6, h7, h8, h9⟩ := id hN
    exact ⟨-2, t_stress_cells, t_stress_parts, t_stress_det, m_row, m_wide, m_lost, m_strain, m_det, by rw [fX7_frail, fX7_frailSet, fX7_areLoads, if_pos rfl, if_pos rfl, ob4_some, if_neg (by decide)], by simp only [fX8_frail, mIs0 (h9 3 (by omega)), Option.bind_some, if_true]⟩
set_option maxHeartbeats 1000000 in
set_option maxRecDepth 100000 in
theorem cs_frailSet (t_now_numbers : Nat → Int32) (t_now_cells : Nat → Int32) (t_now_rows : Nat → Int32) (t_now_sizes : Nat → Int32) (t_now_told : Int32) (t_now_acts : Int32) (t_stress_cells : Nat → Int64) (t_stress_parts : Nat → Int64) (t_stress_det : Int64) (m_mem : Nat → Int32) (m_row : Nat → Int32) (m_wide : Int32) (m_lost : Int32) (m_strain : Nat → Int64) (m_det : Int64) (t_now_rooms : Nat → Int32) (t_now_lines : Int32) (t_now_kinds : Int32) (m_acted : Int32) (m_past : Nat → Int32) (v1 : Int32) (v2 : Int32) (v3 : Int32) (hN : PN t_now_numbers t_now_cells t_now_rows t_now_sizes t_now_rooms t_now_told t_now_lines t_now_kinds t_now_acts m_mem m_acted m_past) : ∃ (r : Int32) (o_t_stress_cells : Nat → Int64) (o_t_stress_parts : Nat → Int64) (o_t_stress_det : Int64) (o_m_row : Nat → Int32) (o_m_wide : Int32) (o_m_lost : Int32) (o_m_strain : Nat → Int64) (o_m_det : Int64), fX7_frailSet t_now_numbers t_now_cells t_now_rows t_now_sizes t_now_told t_now_acts t_stress_cells t_stress_parts t_stress_det v1 v2 v3 = some (r, o_t_stress_cells, o_t_stress_parts, o_t_stress_det) ∧ fX8_frailSet m_mem m_row m_wide m_lost m_strain m_det v1 v2 v3 = some (r, o_m_row, o_m_wide, o_m_lost, o_m_strain, o_m_det) := by
  rcases hN with hN | hN
  · obtain ⟨kn, a, l, rm, nb, rfl, rfl, rfl, rfl, h⟩ := hN.view
    by_cases c1 : ld v1 ∧ ld v2 ∧ ld v3
    · have hL := loads_y c1.1 c1.2.1 c1.2.2
      obtain ⟨r, cl2, p2, d2, row', wide', lost2, st2, dt2, hr, x1, y1⟩ := h.frail c1.1 c1.2.1 c1.2.2 t_stress_cells t_stress_parts t_stress_det m_row m_wide m_lost m_strain m_det
      exact ⟨nI r, cl2, p2, d2, row', wide', lost2, st2, dt2, by rw [fX7_frailSet, hL.1, if_neg (by decide), x1, ob4_some], by rw [fX8_frailSet, h.is, Option.bind_some, if_neg (by decide), hL.2, if_neg (by decide), y1, ob6_some]⟩
    · have hL := loads_n c1
      exact ⟨-2, t_stress_cells, t_stress_parts, t_stress_det, m_row, m_wide, m_lost, m_strain, m_det, by rw [fX7_frailSet, hL.1, if_pos rfl], by rw [fX8_frailSet, h.is, Option.bind_some, if_neg (by decide), hL.2, if_pos rfl]⟩
  · obtain ⟨rfl, h2, h3, h4, h5, h6, h7, h8, h9⟩ := id hN
    exact ⟨-2, t_stress_cells, t_stress_parts, t_stress_det, m_row, m_wide, m_lost, m_strain, m_det, by simp only [fX7_frailSet, fX7_areLoads, if_true], by simp only [fX8_frailSet, mIs0 (h9 3 (by omega)), Option.bind_some, if_true]⟩
set_option maxHeartbeats 1000000 in
set_option maxRecDepth 100000 in
theorem cs_carries (t_now_numbers : Nat → Int32) (t_now_cells : Nat → Int32) (t_now_rows : Nat → Int32) (t_now_sizes : Nat → Int32) (t_now_told : Int32) (t_now_acts : Int32) (t_stress_cells : Nat → Int64) (t_stress_parts : Nat → Int64) (t_stress_det : Int64) (m_mem : Nat → Int32) (m_row : Nat → Int32) (m_wide : Int32) (m_lost : Int32) (m_strain : Nat → Int64) (m_det : Int64) (t_now_rooms : Nat → Int32) (t_now_lines : Int32) (t_now_kinds : Int32) (m_acted : Int32) (m_past : Nat → Int32) (v1 : Int32) (hN : PN t_now_numbers t_now_cells t_now_rows t_now_sizes t_now_rooms t_now_told t_now_lines t_now_kinds t_now_acts m_mem m_acted m_past) : ∃ (r : Int32) (o_t_stress_cells : Nat → Int64) (o_t_stress_parts : Nat → Int64) (o_t_stress_det : Int64) (o_m_row : Nat → Int32) (o_m_wide : Int32) (o_m_lost : Int32) (o_m_strain : Nat → Int64) (o_m_det : Int64), fX7_carries t_now_numbers t_now_cells t_now_rows t_now_sizes t_now_told t_now_acts t_stress_cells t_stress_parts t_stress_det v1 = some (r, o_t_stress_cells, o_t_stress_parts, o_t_stress_det) ∧ fX8_carries m_mem m_row m_wide m_lost m_strain m_det v1 = some (r, o_m_row, o_m_wide, o_m_lost, o_m_strain, o_m_det) := by
  rcases hN with hN | hN
  · obtain ⟨kn, a, l, rm, nb, rfl, rfl, rfl, rfl, h⟩ := hN.view
    by_cases c1 : 0 ≤ v1.toInt ∧ v1.toInt ≤ 1
    · obtain ⟨v, rfl, hv, -⟩ := int_nat c1.1
      have hv2 : v < 2 := by omega
      have q1 : (nI v ≤ 1) = True := eq_true ((le1_iff _).mpr c1.2)
      obtain ⟨cl, a1, a2⟩ := h.take (w := 0) (g := 0) (by omega) (by omega) t_stress_cells t_stress_det
      obtain ⟨row', b1, b2⟩ := h.lays m_row m_wide m_lost
      have bd := D3_0 (D3_bd (h.sT_bd0 0))
      have dm := h.detM b2 (w := 0) (g := 0) (by omega) (by omega)
      rw [← lit_nI0] at a1 dm
      by_cases e : D3 (sT nb l 0 0) = 0
      · exact ⟨-1, cl, t_stress_parts, i64 (D3 (sT nb l 0 0)), row', nI l.length, 0, m_strain, m_det, by simp only [fX7_carries, e10, if_false, nn0 c1.1, q1, if_true, a1, ob2_some, if_pos (bd.mpr e)], by simp only [fX8_carries, h.is, Option.bind_some, e10, if_false, mIn1, if_pos c1, b1, ob3_some, dm, if_pos (bd.mpr e)]⟩
      · have e' := fun q => e (bd.mp q)
        have key : ∀ (x y : Int32), x.toInt = (if v = 0 then 1 else 0) → y.toInt = (if v = 1 then 1 else 0) → ∃ (r : Int32) (p2 : Nat → Int64) (st2 : Nat → Int64) (dt2 : Int64), fX7_carries_72 t_now_numbers t_now_rows t_now_sizes (nI a) cl t_stress_parts (i64 (D3 (sT nb l 0 0))) x y = some (r, cl, p2, i64 (D3 (sT nb l 0 0))) ∧ fX8_carries_40 FU m_mem row' (nI l.length) 0 m_strain m_det (nI v) 999 = some (r, row', nI l.length, 0, st2, dt2) := by
          intro x y hx hy
          obtain ⟨p2, p3, p4⟩ := cSolve (sT_sy nb l 0 0) a2 t_stress_parts x y 0
          have bx : -999 ≤ x.toInt ∧ x.toInt ≤ 999 := by rw [hx]; split <;> omega
          have by' : -999 ≤ y.toInt ∧ y.toInt ≤ 999 := by rw [hy]; split <;> omega
          have g1 := h.gt_loop bx by' (z := (0 : Int32).toInt) (by decide) p4 l.length FU 0 999 (by omega) (FU_gt (by have := h.len; omega)) (by omega)
          have t9 : gtL (lm nb l) (AA nb l 0 x.toInt y.toInt (0 : Int32).toInt) (DD nb l 0) l.length 0 999 ≤ 999 := ((gtL_iff _ _ _ _ l.length 0 999).mp (Nat.le_refl _)).1
          obtain ⟨st2, dt2, m1⟩ := h.carM_loop b2 e hv2 (t := gtL (lm nb l) (AA nb l 0 x.toInt y.toInt (0 : Int32).toInt) (DD nb l 0) l.length 0 999) (fun u hu => by
            rw [← hx, ← hy, show ((u : Int) * 0) = (u : Int) * (0 : Int32).toInt from rfl, WW_u e, gtL_iff]
            constructor
            · intro q; exact ⟨hu, fun j _ hj => q j (by omega)⟩
            · intro q j hj; exact q.2 j (by omega) (by omega)) t9 (999 - gtL (lm nb l) (AA nb l 0 x.toInt y.toInt (0 : Int32).toInt) (DD nb l 0) l.length 0 999) FU m_strain m_det (by omega) (FU_gt (by omega))
          rw [show gtL (lm nb l) (AA nb l 0 x.toInt y.toInt (0 : Int32).toInt) (DD nb l 0) l.length 0 999 + (999 - gtL (lm nb l) (AA nb l 0 x.toInt y.toInt (0 : Int32).toInt) (DD nb l 0) l.length 0 999) = 999 by omega] at m1
          refine ⟨_, p2, st2, dt2, ?_, m1⟩
          rw [fX7_carries_72, p3, Option.bind_some, fX4_greatestTimes, show (999 : Int32).toInt64 = lN 999 from rfl, lit_nI0, g1, Option.bind_some]
          rfl
        have hv' : v = 0 ∨ v = 1 := by omega
        rcases hv' with rfl | rfl
        · obtain ⟨r, p2, st2, dt2, x1, y1⟩ := key 1 0 rfl rfl
          exact ⟨r, cl, p2, _, row', nI l.length, 0, st2, dt2, by simp only [fX7_carries, e10, if_false, nn0 c1.1, q1, if_true, a1, ob2_some, if_neg e', zz00, zz01, fX7_carries_62]; exact x1, by simp only [fX8_carries, h.is, Option.bind_some, e10, if_false, mIn1, if_pos c1, b1, ob3_some, dm, if_neg e']; exact y1⟩
        · obtain ⟨r, p2, st2, dt2, x1, y1⟩ := key 0 1 rfl rfl
          exact ⟨r, cl, p2, _, row', nI l.length, 0, st2, dt2, by simp only [fX7_carries, e10, if_false, nn0 c1.1, q1, if_true, a1, ob2_some, if_neg e', zz10, zz11, fX7_carries_62]; exact x1, by simp only [fX8_carries, h.is, Option.bind_some, e10, if_false, mIn1, if_pos c1, b1, ob3_some, dm, if_neg e']; exact y1⟩
    · refine ⟨-2, t_stress_cells, t_stress_parts, t_stress_det, m_row, m_wide, m_lost, m_strain, m_det, ?_, by simp only [fX8_carries, h.is, Option.bind_some, e10, if_false, mIn1, if_neg c1, if_true]⟩
      simp only [fX7_carries, e10, if_false]
      exact out_lo le1_iff c1
  · obtain ⟨rfl, h2, h3, h4, h5, h6, h7, h8, h9⟩ := id hN
    exact ⟨-2, t_stress_cells, t_stress_parts, t_stress_det, m_row, m_wide, m_lost, m_strain, m_det, by simp only [fX7_carries, if_true], by simp only [fX8_carries, mIs0 (h9 3 (by omega)), Option.bind_some, if_true]⟩
set_option maxHeartbeats 1000000 in
set_option maxRecDepth 100000 in
theorem cs_partOf (t_images_0_rows : Nat → Int32) (t_images_0_sizes : Nat → Int32) (t_images_0_told : Int32) (t_images_0_acts : Int32) (t_images_1_rows : Nat → Int32) (t_images_1_sizes : Nat → Int32) (t_images_1_told : Int32) (t_images_1_acts : Int32) (t_images_2_rows : Nat → Int32) (t_images_2_sizes : Nat → Int32) (t_images_2_told : Int32) (t_images_2_acts : Int32) (m_images : Nat → Int32) (m_hasImage : Nat → Int32) (m_rows : Nat → Int32) (t_images_0_numbers : Nat → Int32) (t_images_0_cells : Nat → Int32) (t_images_0_rooms : Nat → Int32) (t_images_0_lines : Int32) (t_images_0_kinds : Int32) (m_imageActed : Nat → Int32) (m_imagePast : Nat → Int32) (t_images_1_numbers : Nat → Int32) (t_images_1_cells : Nat → Int32) (t_images_1_rooms : Nat → Int32) (t_images_1_lines : Int32) (t_images_1_kinds : Int32) (t_images_2_numbers : Nat → Int32) (t_images_2_cells : Nat → Int32) (t_images_2_rooms : Nat → Int32) (t_images_2_lines : Int32) (t_images_2_kinds : Int32) (v1 : Int32) (v2 : Int32) (hI0 : PI 0 t_images_0_numbers t_images_0_cells t_images_0_rows t_images_0_sizes t_images_0_rooms t_images_0_told t_images_0_lines t_images_0_kinds t_images_0_acts m_images m_imageActed m_imagePast m_hasImage) (hI1 : PI 1 t_images_1_numbers t_images_1_cells t_images_1_rows t_images_1_sizes t_images_1_rooms t_images_1_told t_images_1_lines t_images_1_kinds t_images_1_acts m_images m_imageActed m_imagePast m_hasImage) (hI2 : PI 2 t_images_2_numbers t_images_2_cells t_images_2_rows t_images_2_sizes t_images_2_rooms t_images_2_told t_images_2_lines t_images_2_kinds t_images_2_acts m_images m_imageActed m_imagePast m_hasImage) : ∃ (r : Int32) (o_m_rows : Nat → Int32), fX7_partOf t_images_0_rows t_images_0_sizes t_images_0_told t_images_0_acts t_images_1_rows t_images_1_sizes t_images_1_told t_images_1_acts t_images_2_rows t_images_2_sizes t_images_2_told t_images_2_acts v1 v2 = some r ∧ fX8_partOf m_images m_hasImage m_rows v1 v2 = some (r, o_m_rows) := by
  by_cases c1 : (0 ≤ v1.toInt ∧ v1.toInt ≤ 2) ∧ (0 ≤ v2.toInt ∧ v2.toInt ≤ 2)
  · obtain ⟨i, hi, rfl⟩ := isImg_yes c1.1
    obtain ⟨j, hj, rfl⟩ := isImg_yes c1.2
    have hi' : i = 0 ∨ i = 1 ∨ i = 2 := by omega
    have hj' : j = 0 ∨ j = 1 ∨ j = 2 := by omega
    rcases hi' with rfl | rfl | rfl <;> rcases hj' with rfl | rfl | rfl
    · rcases hI0.view with ⟨rfl, s1⟩ | ⟨rfl, s1, kn, a, l, rm, nb, ha, -, rfl, y1, h⟩
      · exact ⟨-6, m_rows, by simp only [fX7_partOf, fX7_imagesBar, zz00, zz01, zz02, zz10, zz11, zz12, zz20, zz21, zz22, ic0, ic1, ic2, e10, e60, if_false, if_true, Option.bind_some], by rw [fX8_partOf, mWhy (by omega) (by omega), s1, if_pos rfl, Option.bind_some, if_neg (by decide)]⟩
      · have s2 := s1
        have h2 := h
        obtain ⟨tb, e⟩ := mCom h h2 (by omega) (by omega) m_rows
        have hn := h.manyIn (by omega)
        exact part_end (by simp only [fX7_partOf, fX7_imagesBar, zz00, zz01, zz02, zz10, zz11, zz12, zz20, zz21, zz22, ic0, ic1, ic2, e10, e60, if_false, if_true, Option.bind_some, fX1_isPartOf, cCom h h2, h.plies]; rfl) (by rw [fX8_partOf, mWhy (by omega) (by omega), s1, if_neg (by decide), if_neg (by decide), Option.bind_some, if_pos (by decide), e, ob2_some, hn, Option.bind_some])
    · rcases hI0.view with ⟨rfl, s1⟩ | ⟨rfl, s1, kn, a, l, rm, nb, ha, -, rfl, y1, h⟩
      · exact ⟨-6, m_rows, by simp only [fX7_partOf, fX7_imagesBar, zz00, zz01, zz02, zz10, zz11, zz12, zz20, zz21, zz22, ic0, ic1, ic2, e10, e60, if_false, if_true, Option.bind_some], by rw [fX8_partOf, mWhy (by omega) (by omega), s1, if_pos rfl, Option.bind_some, if_neg (by decide)]⟩
      · rcases hI1.view with ⟨rfl, s2⟩ | ⟨rfl, s2, kn2, a2, l2, rm2, nb2, ha2, -, rfl, y2, h2⟩
        · exact ⟨-6, m_rows, by simp only [fX7_partOf, fX7_imagesBar, zz00, zz01, zz02, zz10, zz11, zz12, zz20, zz21, zz22, ic0, ic1, ic2, e10, e60, if_false, if_true, Option.bind_some], by rw [fX8_partOf, mWhy (by omega) (by omega), s1, if_neg (by decide), s2, if_pos rfl, Option.bind_some, if_neg (by decide)]⟩
        · obtain ⟨tb, e⟩ := mCom h h2 (by omega) (by omega) m_rows
          have hn := h.manyIn (by omega)
          exact part_end (by simp only [fX7_partOf, fX7_imagesBar, zz00, zz01, zz02, zz10, zz11, zz12, zz20, zz21, zz22, ic0, ic1, ic2, e10, e60, if_false, if_true, Option.bind_some, fX1_isPartOf, cCom h h2, h.plies]; rfl) (by rw [fX8_partOf, mWhy (by omega) (by omega), s1, if_neg (by decide), s2, if_neg (by decide), Option.bind_some, if_pos (by decide), e, ob2_some, hn, Option.bind_some])
    · rcases hI0.view with ⟨rfl, s1⟩ | ⟨rfl, s1, kn, a, l, rm, nb, ha, -, rfl, y1, h⟩
      · exact ⟨-6, m_rows, by simp only [fX7_partOf, fX7_imagesBar, zz00, zz01, zz02, zz10, zz11, zz12, zz20, zz21, zz22, ic0, ic1, ic2, e10, e60, if_false, if_true, Option.bind_some], by rw [fX8_partOf, mWhy (by omega) (by omega), s1, if_pos rfl, Option.bind_some, if_neg (by decide)]⟩
      · rcases hI2.view with ⟨rfl, s2⟩ | ⟨rfl, s2, kn2, a2, l2, rm2, nb2, ha2, -, rfl, y2, h2⟩
        · exact ⟨-6, m_rows, by simp only [fX7_partOf, fX7_imagesBar, zz00, zz01, zz02, zz10, zz11, zz12, zz20, zz21, zz22, ic0, ic1, ic2, e10, e60, if_false, if_true, Option.bind_some], by rw [fX8_partOf, mWhy (by omega) (by omega), s1, if_neg (by decide), s2, if_pos rfl, Option.bind_some, if_neg (by decide)]⟩
        · obtain ⟨tb, e⟩ := mCom h h2 (by omega) (by omega) m_rows
          have hn := h.manyIn (by omega)
          exact part_end (by simp only [fX7_partOf, fX7_imagesBar, zz00, zz01, zz02, zz10, zz11, zz12, zz20, zz21, zz22, ic0, ic1, ic2, e10, e60, if_false, if_true, Option.bind_some, fX1_isPartOf, cCom h h2, h.plies]; rfl) (by rw [fX8_partOf, mWhy (by omega) (by omega), s1, if_neg (by decide), s2, if_neg (by decide), Option.bind_some, if_pos (by decide), e, ob2_some, hn, Option.bind_some])
    · rcases hI1.view with ⟨rfl, s1⟩ | ⟨rfl, s1, kn, a, l, rm, nb, ha, -, rfl, y1, h⟩
      · exact ⟨-6, m_rows, by simp only [fX7_partOf, fX7_imagesBar, zz00, zz01, zz02, zz10, zz11, zz12, zz20, zz21, zz22, ic0, ic1, ic2, e10, e60, if_false, if_true, Option.bind_some], by rw [fX8_partOf, mWhy (by omega) (by omega), s1, if_pos rfl, Option.bind_some, if_neg (by decide)]⟩
      · rcases hI0.view with ⟨rfl, s2⟩ | ⟨rfl, s2, kn2, a2, l2, rm2, nb2, ha2, -, rfl, y2, h2⟩
        · exact ⟨-6, m_rows, by simp only [fX7_partOf, fX7_imagesBar, zz00, zz01, zz02, zz10, zz11, zz12, zz20, zz21, zz22, ic0, ic1, ic2, e10, e60, if_false, if_true, Option.bind_some], by rw [fX8_partOf, mWhy (by omega) (by omega), s1, if_neg (by decide), s2, if_pos rfl, Option.bind_some, if_neg (by decide)]⟩
        · obtain ⟨tb, e⟩ := mCom h h2 (by omega) (by omega) m_rows
          have hn := h.manyIn (by omega)
          exact part_end (by simp only [fX7_partOf, fX7_imagesBar, zz00, zz01, zz02, zz10, zz11, zz12, zz20, zz21, zz22, ic0, ic1, ic2, e10, e60, if_false, if_true, Option.bind_some, fX1_isPartOf, cCom h h2, h.plies]; rfl) (by rw [fX8_partOf, mWhy (by omega) (by omega), s1, if_neg (by decide), s2, if_neg (by decide), Option.bind_some, if_pos (by decide), e, ob2_some, hn, Option.bind_some])
    · rcases hI1.view with ⟨rfl, s1⟩ | ⟨rfl, s1, kn, a, l, rm, nb, ha, -, rfl, y1, h⟩
      · exact ⟨-6, m_rows, by simp only [fX7_partOf, fX7_imagesBar, zz00, zz01, zz02, zz10, zz11, zz12, zz20, zz21, zz22, ic0, ic1, ic2, e10, e60, if_false, if_true, Option.bind_some], by rw [fX8_partOf, mWhy (by omega) (by omega), s1, if_pos rfl, Option.bind_some, if_neg (by decide)]⟩
      · have s2 := s1
        have h2 := h
        obtain ⟨tb, e⟩ := mCom h h2 (by omega) (by omega) m_rows
        have hn := h.manyIn (by omega)
        exact part_end (by simp only [fX7_partOf, fX7_imagesBar, zz00, zz01, zz02, zz10, zz11, zz12, zz20, zz21, zz22, ic0, ic1, ic2, e10, e60, if_false, if_true, Option.bind_some, fX1_isPartOf, cCom h h2, h.plies]; rfl) (by rw [fX8_partOf, mWhy (by omega) (by omega), s1, if_neg (by decide), if_neg (by decide), Option.bind_some, if_pos (by decide), e, ob2_some, hn, Option.bind_some])
    · rcases hI1.view with ⟨rfl, s1⟩ | ⟨rfl, s1, kn, a, l, rm, nb, ha, -, rfl, y1, h⟩
      · exact ⟨-6, m_rows, by simp only [fX7_partOf, fX7_imagesBar, zz00, zz01, zz02, zz10, zz11, zz12, zz20, zz21, zz22, ic0, ic1, ic2, e10, e60, if_false, if_true, Option.bind_some], by rw [fX8_partOf, mWhy (by omega) (by omega), s1, if_pos rfl, Option.bind_some, if_neg (by decide)]⟩
      · rcases hI2.view with ⟨rfl, s2⟩ | ⟨rfl, s2, kn2, a2, l2, rm2, nb2, ha2, -, rfl, y2, h2⟩
        · exact ⟨-6, m_rows, by simp only [fX7_partOf, fX7_imagesBar, zz00, zz01, zz02, zz10, zz11, zz12, zz20, zz21, zz22, ic0, ic1, ic2, e10, e60, if_false, if_true, Option.bind_some], by rw [fX8_partOf, mWhy (by omega) (by omega), s1, if_neg (by decide), s2, if_pos rfl, Option.bind_some, if_neg (by decide)]⟩
        · obtain ⟨tb, e⟩ := mCom h h2 (by omega) (by omega) m_rows
          have hn := h.manyIn (by omega)
          exact part_end (by simp only [fX7_partOf, fX7_imagesBar, zz00, zz01, zz02, zz10, zz11, zz12, zz20, zz21, zz22, ic0, ic1, ic2, e10, e60, if_false, if_true, Option.bind_some, fX1_isPartOf, cCom h h2, h.plies]; rfl) (by rw [fX8_partOf, mWhy (by omega) (by omega), s1, if_neg (by decide), s2, if_neg (by decide), Option.bind_some, if_pos (by decide), e, ob2_some, hn, Option.bind_some])
    · rcases hI2.view with ⟨rfl, s1⟩ | ⟨rfl, s1, kn, a, l, rm, nb, ha, -, rfl, y1, h⟩
      · exact ⟨-6, m_rows, by simp only [fX7_partOf, fX7_imagesBar, zz00, zz01, zz02, zz10, zz11, zz12, zz20, zz21, zz22, ic0, ic1, ic2, e10, e60, if_false, if_true, Option.bind_some], by rw [fX8_partOf, mWhy (by omega) (by omega), s1, if_pos rfl, Option.bind_some, if_neg (by decide)]⟩
      · rcases hI0.view with ⟨rfl, s2⟩ | ⟨rfl, s2, kn2, a2, l2, rm2, nb2, ha2, -, rfl, y2, h2⟩
        · exact ⟨-6, m_rows, by simp only [fX7_partOf, fX7_imagesBar, zz00, zz01, zz02, zz10, zz11, zz12, zz20, zz21, zz22, ic0, ic1, ic2, e10, e60, if_false, if_true, Option.bind_some], by rw [fX8_partOf, mWhy (by omega) (by omega), s1, if_neg (by decide), s2, if_pos rfl, Option.bind_some, if_neg (by decide)]⟩
        · obtain ⟨tb, e⟩ := mCom h h2 (by omega) (by omega) m_rows
          have hn := h.manyIn (by omega)
          exact part_end (by simp only [fX7_partOf, fX7_imagesBar, zz00, zz01, zz02, zz10, zz11, zz12, zz20, zz21, zz22, ic0, ic1, ic2, e10, e60, if_false, if_true, Option.bind_some, fX1_isPartOf, cCom h h2, h.plies]; rfl) (by rw [fX8_partOf, mWhy (by omega) (by omega), s1, if_neg (by decide), s2, if_neg (by decide), Option.bind_some, if_pos (by decide), e, ob2_some, hn, Option.bind_some])
    · rcases hI2.view with ⟨rfl, s1⟩ | ⟨rfl, s1, kn, a, l, rm, nb, ha, -, rfl, y1, h⟩
      · exact ⟨-6, m_rows, by simp only [fX7_partOf, fX7_imagesBar, zz00, zz01, zz02, zz10, zz11, zz12, zz20, zz21, zz22, ic0, ic1, ic2, e10, e60, if_false, if_true, Option.bind_some], by rw [fX8_partOf, mWhy (by omega) (by omega), s1, if_pos rfl, Option.bind_some, if_neg (by decide)]⟩
      · rcases hI1.view with ⟨rfl, s2⟩ | ⟨rfl, s2, kn2, a2, l2, rm2, nb2, ha2, -, rfl, y2, h2⟩
        · exact ⟨-6, m_rows, by simp only [fX7_partOf, fX7_imagesBar, zz00, zz01, zz02, zz10, zz11, zz12, zz20, zz21, zz22, ic0, ic1, ic2, e10, e60, if_false, if_true, Option.bind_some], by rw [fX8_partOf, mWhy (by omega) (by omega), s1, if_neg (by decide), s2, if_pos rfl, Option.bind_some, if_neg (by decide)]⟩
        · obtain ⟨tb, e⟩ := mCom h h2 (by omega) (by omega) m_rows
          have hn := h.manyIn (by omega)
          exact part_end (by simp only [fX7_partOf, fX7_imagesBar, zz00, zz01, zz02, zz10, zz11, zz12, zz20, zz21, zz22, ic0, ic1, ic2, e10, e60, if_false, if_true, Option.bind_some, fX1_isPartOf, cCom h h2, h.plies]; rfl) (by rw [fX8_partOf, mWhy (by omega) (by omega), s1, if_neg (by decide), s2, if_neg (by decide), Option.bind_some, if_pos (by decide), e, ob2_some, hn, Option.bind_some])
    · rcases hI2.view with ⟨rfl, s1⟩ | ⟨rfl, s1, kn, a, l, rm, nb, ha, -, rfl, y1, h⟩
      · exact ⟨-6, m_rows, by simp only [fX7_partOf, fX7_imagesBar, zz00, zz01, zz02, zz10, zz11, zz12, zz20, zz21, zz22, ic0, ic1, ic2, e10, e60, if_false, if_true, Option.bind_some], by rw [fX8_partOf, mWhy (by omega) (by omega), s1, if_pos rfl, Option.bind_some, if_neg (by decide)]⟩
      · have s2 := s1
        have h2 := h
        obtain ⟨tb, e⟩ := mCom h h2 (by omega) (by omega) m_rows
        have hn := h.manyIn (by omega)
        exact part_end (by simp only [fX7_partOf, fX7_imagesBar, zz00, zz01, zz02, zz10, zz11, zz12, zz20, zz21, zz22, ic0, ic1, ic2, e10, e60, if_false, if_true, Option.bind_some, fX1_isPartOf, cCom h h2, h.plies]; rfl) (by rw [fX8_partOf, mWhy (by omega) (by omega), s1, if_neg (by decide), if_neg (by decide), Option.bind_some, if_pos (by decide), e, ob2_some, hn, Option.bind_some])
  · have c2 : ¬ (0 ≤ v1.toInt ∧ v1.toInt ≤ 2) ∨ ¬ (0 ≤ v2.toInt ∧ v2.toInt ≤ 2) := by omega
    exact ⟨-2, m_rows, by rw [fX7_partOf, cBar0 c2, Option.bind_some, if_neg (by decide)], by rw [fX8_partOf, mWhy0 c2, Option.bind_some, if_neg (by decide)]⟩
set_option maxHeartbeats 1000000 in
set_option maxRecDepth 100000 in
theorem cs_common (t_images_0_rows : Nat → Int32) (t_images_0_sizes : Nat → Int32) (t_images_0_told : Int32) (t_images_0_acts : Int32) (t_images_1_rows : Nat → Int32) (t_images_1_sizes : Nat → Int32) (t_images_1_told : Int32) (t_images_1_acts : Int32) (t_images_2_rows : Nat → Int32) (t_images_2_sizes : Nat → Int32) (t_images_2_told : Int32) (t_images_2_acts : Int32) (m_images : Nat → Int32) (m_hasImage : Nat → Int32) (m_rows : Nat → Int32) (t_images_0_numbers : Nat → Int32) (t_images_0_cells : Nat → Int32) (t_images_0_rooms : Nat → Int32) (t_images_0_lines : Int32) (t_images_0_kinds : Int32) (m_imageActed : Nat → Int32) (m_imagePast : Nat → Int32) (t_images_1_numbers : Nat → Int32) (t_images_1_cells : Nat → Int32) (t_images_1_rooms : Nat → Int32) (t_images_1_lines : Int32) (t_images_1_kinds : Int32) (t_images_2_numbers : Nat → Int32) (t_images_2_cells : Nat → Int32) (t_images_2_rooms : Nat → Int32) (t_images_2_lines : Int32) (t_images_2_kinds : Int32) (v1 : Int32) (v2 : Int32) (hI0 : PI 0 t_images_0_numbers t_images_0_cells t_images_0_rows t_images_0_sizes t_images_0_rooms t_images_0_told t_images_0_lines t_images_0_kinds t_images_0_acts m_images m_imageActed m_imagePast m_hasImage) (hI1 : PI 1 t_images_1_numbers t_images_1_cells t_images_1_rows t_images_1_sizes t_images_1_rooms t_images_1_told t_images_1_lines t_images_1_kinds t_images_1_acts m_images m_imageActed m_imagePast m_hasImage) (hI2 : PI 2 t_images_2_numbers t_images_2_cells t_images_2_rows t_images_2_sizes t_images_2_rooms t_images_2_told t_images_2_lines t_images_2_kinds t_images_2_acts m_images m_imageActed m_imagePast m_hasImage) : ∃ (r : Int32) (o_m_rows : Nat → Int32), fX7_common t_images_0_rows t_images_0_sizes t_images_0_told t_images_0_acts t_images_1_rows t_images_1_sizes t_images_1_told t_images_1_acts t_images_2_rows t_images_2_sizes t_images_2_told t_images_2_acts v1 v2 = some r ∧ fX8_common_ m_images m_hasImage m_rows v1 v2 = some (r, o_m_rows) := by
  by_cases c1 : (0 ≤ v1.toInt ∧ v1.toInt ≤ 2) ∧ (0 ≤ v2.toInt ∧ v2.toInt ≤ 2)
  · obtain ⟨i, hi, rfl⟩ := isImg_yes c1.1
    obtain ⟨j, hj, rfl⟩ := isImg_yes c1.2
    have hi' : i = 0 ∨ i = 1 ∨ i = 2 := by omega
    have hj' : j = 0 ∨ j = 1 ∨ j = 2 := by omega
    rcases hi' with rfl | rfl | rfl <;> rcases hj' with rfl | rfl | rfl
    · rcases hI0.view with ⟨rfl, s1⟩ | ⟨rfl, s1, kn, a, l, rm, nb, ha, -, rfl, y1, h⟩
      · exact ⟨-6, m_rows, by simp only [fX7_common, fX7_imagesBar, zz00, zz01, zz02, zz10, zz11, zz12, zz20, zz21, zz22, ic0, ic1, ic2, e10, e60, if_false, if_true, Option.bind_some], by rw [fX8_common_, mWhy (by omega) (by omega), s1, if_pos rfl, Option.bind_some, if_neg (by decide)]⟩
      · have s2 := s1
        have h2 := h
        obtain ⟨tb, e⟩ := mCom h h2 (by omega) (by omega) m_rows
        exact ⟨nI (lc l l l.length l.length), tb, by simp only [fX7_common, fX7_imagesBar, zz00, zz01, zz02, zz10, zz11, zz12, zz20, zz21, zz22, ic0, ic1, ic2, e10, e60, if_false, if_true, Option.bind_some, cCom h h2], by rw [fX8_common_, mWhy (by omega) (by omega), s1, if_neg (by decide), if_neg (by decide), Option.bind_some, if_pos (by decide), e, ob2_some]⟩
    · rcases hI0.view with ⟨rfl, s1⟩ | ⟨rfl, s1, kn, a, l, rm, nb, ha, -, rfl, y1, h⟩
      · exact ⟨-6, m_rows, by simp only [fX7_common, fX7_imagesBar, zz00, zz01, zz02, zz10, zz11, zz12, zz20, zz21, zz22, ic0, ic1, ic2, e10, e60, if_false, if_true, Option.bind_some], by rw [fX8_common_, mWhy (by omega) (by omega), s1, if_pos rfl, Option.bind_some, if_neg (by decide)]⟩
      · rcases hI1.view with ⟨rfl, s2⟩ | ⟨rfl, s2, kn2, a2, l2, rm2, nb2, ha2, -, rfl, y2, h2⟩
        · exact ⟨-6, m_rows, by simp only [fX7_common, fX7_imagesBar, zz00, zz01, zz02, zz10, zz11, zz12, zz20, zz21, zz22, ic0, ic1, ic2, e10, e60, if_false, if_true, Option.bind_some], by rw [fX8_common_, mWhy (by omega) (by omega), s1, if_neg (by decide), s2, if_pos rfl, Option.bind_some, if_neg (by decide)]⟩
        · obtain ⟨tb, e⟩ := mCom h h2 (by omega) (by omega) m_rows
          exact ⟨nI (lc l l2 l.length l2.length), tb, by simp only [fX7_common, fX7_imagesBar, zz00, zz01, zz02, zz10, zz11, zz12, zz20, zz21, zz22, ic0, ic1, ic2, e10, e60, if_false, if_true, Option.bind_some, cCom h h2], by rw [fX8_common_, mWhy (by omega) (by omega), s1, if_neg (by decide), s2, if_neg (by decide), Option.bind_some, if_pos (by decide), e, ob2_some]⟩
    · rcases hI0.view with ⟨rfl, s1⟩ | ⟨rfl, s1, kn, a, l, rm, nb, ha, -, rfl, y1, h⟩
      · exact ⟨-6, m_rows, by simp only [fX7_common, fX7_imagesBar, zz00, zz01, zz02, zz10, zz11, zz12, zz20, zz21, zz22, ic0, ic1, ic2, e10, e60, if_false, if_true, Option.bind_some], by rw [fX8_common_, mWhy (by omega) (by omega), s1, if_pos rfl, Option.bind_some, if_neg (by decide)]⟩
      · rcases hI2.view with ⟨rfl, s2⟩ | ⟨rfl, s2, kn2, a2, l2, rm2, nb2, ha2, -, rfl, y2, h2⟩
        · exact ⟨-6, m_rows, by simp only [fX7_common, fX7_imagesBar, zz00, zz01, zz02, zz10, zz11, zz12, zz20, zz21, zz22, ic0, ic1, ic2, e10, e60, if_false, if_true, Option.bind_some], by rw [fX8_common_, mWhy (by omega) (by omega), s1, if_neg (by decide), s2, if_pos rfl, Option.bind_some, if_neg (by decide)]⟩
        · obtain ⟨tb, e⟩ := mCom h h2 (by omega) (by omega) m_rows
          exact ⟨nI (lc l l2 l.length l2.length), tb, by simp only [fX7_common, fX7_imagesBar, zz00, zz01, zz02, zz10, zz11, zz12, zz20, zz21, zz22, ic0, ic1, ic2, e10, e60, if_false, if_true, Option.bind_some, cCom h h2], by rw [fX8_common_, mWhy (by omega) (by omega), s1, if_neg (by decide), s2, if_neg (by decide), Option.bind_some, if_pos (by decide), e, ob2_some]⟩
    · rcases hI1.view with ⟨rfl, s1⟩ | ⟨rfl, s1, kn, a, l, rm, nb, ha, -, rfl, y1, h⟩
      · exact ⟨-6, m_rows, by simp only [fX7_common, fX7_imagesBar, zz00, zz01, zz02, zz10, zz11, zz12, zz20, zz21, zz22, ic0, ic1, ic2, e10, e60, if_false, if_true, Option.bind_some], by rw [fX8_common_, mWhy (by omega) (by omega), s1, if_pos rfl, Option.bind_some, if_neg (by decide)]⟩
      · rcases hI0.view with ⟨rfl, s2⟩ | ⟨rfl, s2, kn2, a2, l2, rm2, nb2, ha2, -, rfl, y2, h2⟩
        · exact ⟨-6, m_rows, by simp only [fX7_common, fX7_imagesBar, zz00, zz01, zz02, zz10, zz11, zz12, zz20, zz21, zz22, ic0, ic1, ic2, e10, e60, if_false, if_true, Option.bind_some], by rw [fX8_common_, mWhy (by omega) (by omega), s1, if_neg (by decide), s2, if_pos rfl, Option.bind_some, if_neg (by decide)]⟩
        · obtain ⟨tb, e⟩ := mCom h h2 (by omega) (by omega) m_rows
          exact ⟨nI (lc l l2 l.length l2.length), tb, by simp only [fX7_common, fX7_imagesBar, zz00, zz01, zz02, zz10, zz11, zz12, zz20, zz21, zz22, ic0, ic1, ic2, e10, e60, if_false, if_true, Option.bind_some, cCom h h2], by rw [fX8_common_, mWhy (by omega) (by omega), s1, if_neg (by decide), s2, if_neg (by decide), Option.bind_some, if_pos (by decide), e, ob2_some]⟩
    · rcases hI1.view with ⟨rfl, s1⟩ | ⟨rfl, s1, kn, a, l, rm, nb, ha, -, rfl, y1, h⟩
      · exact ⟨-6, m_rows, by simp only [fX7_common, fX7_imagesBar, zz00, zz01, zz02, zz10, zz11, zz12, zz20, zz21, zz22, ic0, ic1, ic2, e10, e60, if_false, if_true, Option.bind_some], by rw [fX8_common_, mWhy (by omega) (by omega), s1, if_pos rfl, Option.bind_some, if_neg (by decide)]⟩
      · have s2 := s1
        have h2 := h
        obtain ⟨tb, e⟩ := mCom h h2 (by omega) (by omega) m_rows
        exact ⟨nI (lc l l l.length l.length), tb, by simp only [fX7_common, fX7_imagesBar, zz00, zz01, zz02, zz10, zz11, zz12, zz20, zz21, zz22, ic0, ic1, ic2, e10, e60, if_false, if_true, Option.bind_some, cCom h h2], by rw [fX8_common_, mWhy (by omega) (by omega), s1, if_neg (by decide), if_neg (by decide), Option.bind_some, if_pos (by decide), e, ob2_some]⟩
    · rcases hI1.view with ⟨rfl, s1⟩ | ⟨rfl, s1, kn, a, l, rm, nb, ha, -, rfl, y1, h⟩
      · exact ⟨-6, m_rows, by simp only [fX7_common, fX7_imagesBar, zz00, zz01, zz02, zz10, zz11, zz12, zz20, zz21, zz22, ic0, ic1, ic2, e10, e60, if_false, if_true, Option.bind_some], by rw [fX8_common_, mWhy (by omega) (by omega), s1, if_pos rfl, Option.bind_some, if_neg (by decide)]⟩
      · rcases hI2.view with ⟨rfl, s2⟩ | ⟨rfl, s2, kn2, a2, l2, rm2, nb2, ha2, -, rfl, y2, h2⟩
        · exact ⟨-6, m_rows, by simp only [fX7_common, fX7_imagesBar, zz00, zz01, zz02, zz10, zz11, zz12, zz20, zz21, zz22, ic0, ic1, ic2, e10, e60, if_false, if_true, Option.bind_some], by rw [fX8_common_, mWhy (by omega) (by omega), s1, if_neg (by decide), s2, if_pos rfl, Option.bind_some, if_neg (by decide)]⟩
        · obtain ⟨tb, e⟩ := mCom h h2 (by omega) (by omega) m_rows
          exact ⟨nI (lc l l2 l.length l2.length), tb, by simp only [fX7_common, fX7_imagesBar, zz00, zz01, zz02, zz10, zz11, zz12, zz20, zz21, zz22, ic0, ic1, ic2, e10, e60, if_false, if_true, Option.bind_some, cCom h h2], by rw [fX8_common_, mWhy (by omega) (by omega), s1, if_neg (by decide), s2, if_neg (by decide), Option.bind_some, if_pos (by decide), e, ob2_some]⟩
    · rcases hI2.view with ⟨rfl, s1⟩ | ⟨rfl, s1, kn, a, l, rm, nb, ha, -, rfl, y1, h⟩
      · exact ⟨-6, m_rows, by simp only [fX7_common, fX7_imagesBar, zz00, zz01, zz02, zz10, zz11, zz12, zz20, zz21, zz22, ic0, ic1, ic2, e10, e60, if_false, if_true, Option.bind_some], by rw [fX8_common_, mWhy (by omega) (by omega), s1, if_pos rfl, Option.bind_some, if_neg (by decide)]⟩
      · rcases hI0.view with ⟨rfl, s2⟩ | ⟨rfl, s2, kn2, a2, l2, rm2, nb2, ha2, -, rfl, y2, h2⟩
        · exact ⟨-6, m_rows, by simp only [fX7_common, fX7_imagesBar, zz00, zz01, zz02, zz10, zz11, zz12, zz20, zz21, zz22, ic0, ic1, ic2, e10, e60, if_false, if_true, Option.bind_some], by rw [fX8_common_, mWhy (by omega) (by omega), s1, if_neg (by decide), s2, if_pos rfl, Option.bind_some, if_neg (by decide)]⟩
        · obtain ⟨tb, e⟩ := mCom h h2 (by omega) (by omega) m_rows
          exact ⟨nI (lc l l2 l.length l2.length), tb, by simp only [fX7_common, fX7_imagesBar, zz00, zz01, zz02, zz10, zz11, zz12, zz20, zz21, zz22, ic0, ic1, ic2, e10, e60, if_false, if_true, Option.bind_some, cCom h h2], by rw [fX8_common_, mWhy (by omega) (by omega), s1, if_neg (by decide), s2, if_neg (by decide), Option.bind_some, if_pos (by decide), e, ob2_some]⟩
    · rcases hI2.view with ⟨rfl, s1⟩ | ⟨rfl, s1, kn, a, l, rm, nb, ha, -, rfl, y1, h⟩
      · exact ⟨-6, m_rows, by simp only [fX7_common, fX7_imagesBar, zz00, zz01, zz02, zz10, zz11, zz12, zz20, zz21, zz22, ic0, ic1, ic2, e10, e60, if_false, if_true, Option.bind_some], by rw [fX8_common_, mWhy (by omega) (by omega), s1, if_pos rfl, Option.bind_some, if_neg (by decide)]⟩
      · rcases hI1.view with ⟨rfl, s2⟩ | ⟨rfl, s2, kn2, a2, l2, rm2, nb2, ha2, -, rfl, y2, h2⟩
        · exact ⟨-6, m_rows, by simp only [fX7_common, fX7_imagesBar, zz00, zz01, zz02, zz10, zz11, zz12, zz20, zz21, zz22, ic0, ic1, ic2, e10, e60, if_false, if_true, Option.bind_some], by rw [fX8_common_, mWhy (by omega) (by omega), s1, if_neg (by decide), s2, if_pos rfl, Option.bind_some, if_neg (by decide)]⟩
        · obtain ⟨tb, e⟩ := mCom h h2 (by omega) (by omega) m_rows
          exact ⟨nI (lc l l2 l.length l2.length), tb, by simp only [fX7_common, fX7_imagesBar, zz00, zz01, zz02, zz10, zz11, zz12, zz20, zz21, zz22, ic0, ic1, ic2, e10, e60, if_false, if_true, Option.bind_some, cCom h h2], by rw [fX8_common_, mWhy (by omega) (by omega), s1, if_neg (by decide), s2, if_neg (by decide), Option.bind_some, if_pos (by decide), e, ob2_some]⟩
    · rcases hI2.view with ⟨rfl, s1⟩ | ⟨rfl, s1, kn, a, l, rm, nb, ha, -, rfl, y1, h⟩
      · exact ⟨-6, m_rows, by simp only [fX7_common, fX7_imagesBar, zz00, zz01, zz02, zz10, zz11, zz12, zz20, zz21, zz22, ic0, ic1, ic2, e10, e60, if_false, if_true, Option.bind_some], by rw [fX8_common_, mWhy (by omega) (by omega), s1, if_pos rfl, Option.bind_some, if_neg (by decide)]⟩
      · have s2 := s1
        have h2 := h
        obtain ⟨tb, e⟩ := mCom h h2 (by omega) (by omega) m_rows
        exact ⟨nI (lc l l l.length l.length), tb, by simp only [fX7_common, fX7_imagesBar, zz00, zz01, zz02, zz10, zz11, zz12, zz20, zz21, zz22, ic0, ic1, ic2, e10, e60, if_false, if_true, Option.bind_some, cCom h h2], by rw [fX8_common_, mWhy (by omega) (by omega), s1, if_neg (by decide), if_neg (by decide), Option.bind_some, if_pos (by decide), e, ob2_some]⟩
  · have c2 : ¬ (0 ≤ v1.toInt ∧ v1.toInt ≤ 2) ∨ ¬ (0 ≤ v2.toInt ∧ v2.toInt ≤ 2) := by omega
    exact ⟨-2, m_rows, by rw [fX7_common, cBar0 c2, Option.bind_some, if_neg (by decide)], by rw [fX8_common_, mWhy0 c2, Option.bind_some, if_neg (by decide)]⟩
set_option maxHeartbeats 1000000 in
set_option maxRecDepth 100000 in
theorem cs_lost (t_now_cells : Nat → Int32) (t_now_rows : Nat → Int32) (t_now_sizes : Nat → Int32) (t_now_told : Int32) (t_now_acts : Int32) (m_mem : Nat → Int32) (m_row : Nat → Int32) (m_wide : Int32) (m_lost : Int32) (t_now_numbers : Nat → Int32) (t_now_rooms : Nat → Int32) (t_now_lines : Int32) (t_now_kinds : Int32) (m_acted : Int32) (m_past : Nat → Int32) (v1 : Int32) (v2 : Int32) (hN : PN t_now_numbers t_now_cells t_now_rows t_now_sizes t_now_rooms t_now_told t_now_lines t_now_kinds t_now_acts m_mem m_acted m_past) : ∃ (r : Int64) (o_m_row : Nat → Int32) (o_m_wide : Int32) (o_m_lost : Int32), fX7_lost t_now_cells t_now_rows t_now_sizes t_now_told t_now_acts v1 v2 = some r ∧ fX8_lost m_mem m_row m_wide m_lost v1 v2 = some (r, o_m_row, o_m_wide, o_m_lost) := by
  rcases hN with hN | hN
  · obtain ⟨kn, a, l, rm, nb, rfl, rfl, rfl, rfl, h⟩ := hN.view
    by_cases c1 : 0 ≤ v1.toInt ∧ v1.toInt < l.length
    · obtain ⟨i, rfl, hi, -⟩ := int_nat c1.1
      have l8 := h.len
      by_cases c2 : 0 ≤ v2.toInt ∧ v2.toInt ≤ 2
      · obtain ⟨j, rfl, hj, -⟩ := int_nat c2.1
        obtain ⟨row', hl, hr⟩ := h.lays m_row m_wide m_lost
        have q2 : (nI j ≤ 2) = True := eq_true ((le2_iff _).mpr c2.2)
        exact ⟨LV nb l j i, row', nI l.length, _, by simp only [fX7_lost, h.cply, if_pos c1, e10, if_false, Option.bind_some, nn0 c2.1, q2, if_true, h.left (show i < 8 by omega) (show j < 3 by omega)], by simp only [fX8_lost, h.mply, if_pos c1, e10, if_false, Option.bind_some, mIn2, if_pos c2, hl, ob3_some, h.lostBy hr (show i < 8 by omega) (show j < 3 by omega), ob2_some]; rfl⟩
      · refine ⟨-9223372036854775808, m_row, m_wide, m_lost, ?_, by simp only [fX8_lost, h.mply, if_pos c1, e10, if_false, Option.bind_some, mIn2, if_neg c2, if_true]⟩
        simp only [fX7_lost, h.cply, if_pos c1, e10, if_false, Option.bind_some]
        exact out_lo le2_iff c2
    · exact ⟨-9223372036854775808, m_row, m_wide, m_lost, by simp only [fX7_lost, h.cply, if_neg c1, if_true, Option.bind_some], by simp only [fX8_lost, h.mply, if_neg c1, Option.bind_some, if_true]⟩
  · obtain ⟨rfl, h2, h3, h4, h5, h6, h7, h8, h9⟩ := id hN
    exact ⟨-9223372036854775808, m_row, m_wide, m_lost, by simp only [fX7_lost, fX7_isPly, if_true, Option.bind_some], by simp only [fX8_lost, mIsPly (show m_mem 2 = nI 0 from h9 2 (by omega)) (show 0 < 1000 by omega), if_neg (show ¬ (0 ≤ v1.toInt ∧ v1.toInt < ((0 : Nat) : Int)) by omega), Option.bind_some, if_true]⟩
set_option maxHeartbeats 1000000 in
set_option maxRecDepth 100000 in
theorem cs_worst (t_now_cells : Nat → Int32) (t_now_rows : Nat → Int32) (t_now_sizes : Nat → Int32) (t_now_told : Int32) (t_now_acts : Int32) (m_mem : Nat → Int32) (m_row : Nat → Int32) (m_wide : Int32) (m_lost : Int32) (t_now_numbers : Nat → Int32) (t_now_rooms : Nat → Int32) (t_now_lines : Int32) (t_now_kinds : Int32) (m_acted : Int32) (m_past : Nat → Int32) (v1 : Int32) (hN : PN t_now_numbers t_now_cells t_now_rows t_now_sizes t_now_rooms t_now_told t_now_lines t_now_kinds t_now_acts m_mem m_acted m_past) : ∃ (r : Int32) (o_m_row : Nat → Int32) (o_m_wide : Int32) (o_m_lost : Int32), fX7_worst t_now_cells t_now_rows t_now_sizes t_now_told t_now_acts v1 = some r ∧ fX8_worst m_mem m_row m_wide m_lost v1 = some (r, o_m_row, o_m_wide, o_m_lost) := by
  rcases hN with hN | hN
  · obtain ⟨kn, a, l, rm, nb, rfl, rfl, rfl, rfl, h⟩ := hN.view
    have l8 := h.len
    by_cases c2 : 0 ≤ v1.toInt ∧ v1.toInt ≤ 2
    · obtain ⟨w, rfl, hw, -⟩ := int_nat c2.1
      obtain ⟨row', hl, hr⟩ := h.lays m_row m_wide m_lost
      have q2 : (nI w ≤ 2) = True := eq_true ((le2_iff _).mpr c2.2)
      have hw3 : w < 3 := by omega
      obtain ⟨n, hn⟩ := FU_10
      have key : ∃ (r : Int32) (lost' : Int32), fX7_worst_29 FU t_now_cells t_now_rows t_now_sizes (nI a) (nI w) (-1) 0 (nI 0) = some r ∧ fX8_worst_30 FU m_mem row' (nI l.length) 0 (nI w) (-1) (nI 0) = some (r, row', nI l.length, lost') := by
        rw [show fX7_worst_29 FU = fX7_worst_29 (n + 9 + 1) by rw [hn], show fX8_worst_30 FU = fX8_worst_30 (n + 9 + 1) by rw [hn]]
        by_cases c : l.length = 0
        · have q := (nI_le' (a := l.length) (b := 0) (by omega) (by omega)).mpr (by omega)
          exact ⟨-1, 0, by rw [fX7_worst_29, h.plies, Option.bind_some, if_pos q], by rw [fX8_worst_30, if_pos q]⟩
        · have q : ¬ nI l.length ≤ nI 0 := fun q => by have := (nI_le' (by omega) (by omega)).mp q; omega
          obtain ⟨r, lo, h1, h2⟩ := h.worst hr hw3 (l.length - 1) (n + 9) (n + 9) 1 0 0 (by omega) (by omega) (by omega) (by omega)
          refine ⟨r, lo, ?_, ?_⟩
          · rw [fX7_worst_29, h.plies, Option.bind_some, if_neg q, h.left (by omega) hw3, Option.bind_some]
            simp only [fX7_worst_63, fX7_worst_77, fX7_worst_83, if_true, nI_s]
            rw [← h1, KVw]
            by_cases c : w = 2
            · rw [if_pos c, if_pos (show nI w = 2 by rw [c]; rfl)]
            · rw [if_neg c, if_neg (show ¬ nI w = 2 from nI_ne (b := 2) c (by omega) (by omega))]
          · rw [fX8_worst_30, if_neg q, if_pos rfl]
            simp only [fX8_worst_83, fX8_worst_85, nI_s]
            exact h2
      obtain ⟨r, lo, h1, h2⟩ := key
      exact ⟨r, row', nI l.length, lo, by simp only [fX7_worst, e10, if_false, nn0 c2.1, q2, if_true]; exact h1, by simp only [fX8_worst, h.is, e10, if_false, Option.bind_some, mIn2, if_pos c2, hl, ob3_some]; exact h2⟩
    · refine ⟨-2, m_row, m_wide, m_lost, ?_, by simp only [fX8_worst, h.is, e10, if_false, Option.bind_some, mIn2, if_neg c2, if_true]⟩
      simp only [fX7_worst, e10, if_false]
      exact out_lo le2_iff c2
  · obtain ⟨rfl, h2, h3, h4, h5, h6, h7, h8, h9⟩ := id hN
    exact ⟨-2, m_row, m_wide, m_lost, by simp only [fX7_worst, if_true], by simp only [fX8_worst, mIs0 (h9 3 (by omega)), Option.bind_some, if_true]⟩
set_option maxHeartbeats 1000000 in
set_option maxRecDepth 100000 in
theorem cs_spared (t_now_numbers : Nat → Int32) (t_now_cells : Nat → Int32) (t_now_rows : Nat → Int32) (t_now_sizes : Nat → Int32) (t_now_told : Int32) (t_now_acts : Int32) (t_stress_cells : Nat → Int64) (t_stress_parts : Nat → Int64) (t_stress_det : Int64) (m_mem : Nat → Int32) (m_row : Nat → Int32) (m_wide : Int32) (m_lost : Int32) (m_strain : Nat → Int64) (m_det : Int64) (t_now_rooms : Nat → Int32) (t_now_lines : Int32) (t_now_kinds : Int32) (m_acted : Int32) (m_past : Nat → Int32) (v1 : Int32) (v2 : Int32) (v3 : Int32) (hN : PN t_now_numbers t_now_cells t_now_rows t_now_sizes t_now_rooms t_now_told t_now_lines t_now_kinds t_now_acts m_mem m_acted m_past) : ∃ (r : Int32) (o_t_stress_cells : Nat → Int64) (o_t_stress_parts : Nat → Int64) (o_t_stress_det : Int64) (o_m_row : Nat → Int32) (o_m_wide : Int32) (o_m_lost : Int32) (o_m_strain : Nat → Int64) (o_m_det : Int64), fX7_spared t_now_numbers t_now_cells t_now_rows t_now_sizes t_now_told t_now_acts t_stress_cells t_stress_parts t_stress_det v1 v2 v3 = some (r, o_t_stress_cells, o_t_stress_parts, o_t_stress_det) ∧ fX8_spared m_mem m_row m_wide m_lost m_strain m_det v1 v2 v3 = some (r, o_m_row, o_m_wide, o_m_lost, o_m_strain, o_m_det) := by
  rcases hN with hN | hN
  · obtain ⟨kn, a, l, rm, nb, rfl, rfl, rfl, rfl, h⟩ := hN.view
    by_cases c1 : ld v1 ∧ ld v2 ∧ ld v3
    · have hL := loads_y c1.1 c1.2.1 c1.2.2
      obtain ⟨row', e1, e2⟩ := h.lays m_row m_wide m_lost
      obtain ⟨r, cl2, p2, d2, lost2, st2, dt2, x1, y1⟩ := h.spared e2 c1.1 c1.2.1 c1.2.2 l.length FU FU 0 0 t_stress_cells t_stress_parts t_stress_det 0 m_strain m_det (by omega) (FU_gt (by have := h.len; omega)) (FU_gt (by have := h.len; omega))
      rw [← lit_nI0] at x1 y1
      exact ⟨r, cl2, p2, d2, row', nI l.length, lost2, st2, dt2, by rw [fX7_spared, hL.1, if_neg (by decide)]; exact x1, by rw [fX8_spared, h.is, Option.bind_some, if_neg (by decide), hL.2, if_neg (by decide), e1, ob3_some]; exact y1⟩
    · have hL := loads_n c1
      exact ⟨-2, t_stress_cells, t_stress_parts, t_stress_det, m_row, m_wide, m_lost, m_strain, m_det, by rw [fX7_spared, hL.1, if_pos rfl], by rw [fX8_spared, h.is, Option.bind_some, if_neg (by decide), hL.2, if_pos rfl]⟩
  · obtain ⟨rfl, h2, h3, h4, h5, h6, h7, h8, h9⟩ := id hN
    exact ⟨-2, t_stress_cells, t_stress_parts, t_stress_det, m_row, m_wide, m_lost, m_strain, m_det, by simp only [fX7_spared, fX7_areLoads, if_true], by simp only [fX8_spared, mIs0 (h9 3 (by omega)), Option.bind_some, if_true]⟩
set_option maxHeartbeats 1000000 in
set_option maxRecDepth 100000 in
theorem cs_exchanges (t_now_cells : Nat → Int32) (t_now_rows : Nat → Int32) (t_now_sizes : Nat → Int32) (t_now_rooms : Nat → Int32) (t_now_told : Int32) (t_now_acts : Int32) (t_choices_rows_n : Nat) (t_choices_rows : Nat → Int64) (t_choices_size : Int32) (t_choices_ready : Int32) (t_choices_pool : Int32) (t_choices_plies : Int32) (t_choices_room : Int32) (m_mem : Nat → Int32) (m_row : Nat → Int32) (m_wide : Int32) (m_lost : Int32) (m_left : Nat → Int32) (m_mask : Int32) (m_mode : Int32) (m_wanted : Int32) (m_orders : Int32) (m_foundAt : Int32) (m_foundBy : Int64) (m_found : Nat → Int32) (m_seen : Nat → Int64) (m_unlikes : Int32) (t_now_numbers : Nat → Int32) (t_now_lines : Int32) (t_now_kinds : Int32) (m_acted : Int32) (m_past : Nat → Int32) (v1 : Int32) (v2 : Int32) (hN : PN t_now_numbers t_now_cells t_now_rows t_now_sizes t_now_rooms t_now_told t_now_lines t_now_kinds t_now_acts m_mem m_acted m_past) (hO : PO t_now_cells t_choices_rows_n t_choices_rows t_choices_size t_choices_ready t_choices_pool t_choices_plies t_choices_room) : ∃ (lim0 : Nat) (r : Int32) (o_t_choices_rows_n : Nat) (o_t_choices_rows : Nat → Int64) (o_t_choices_size : Int32) (o_t_choices_ready : Int32) (o_t_choices_pool : Int32) (o_t_choices_plies : Int32) (o_t_choices_room : Int32) (o_m_row : Nat → Int32) (o_m_wide : Int32) (o_m_lost : Int32) (o_m_left : Nat → Int32) (o_m_mask : Int32) (o_m_mode : Int32) (o_m_wanted : Int32) (o_m_orders : Int32) (o_m_foundAt : Int32) (o_m_foundBy : Int64) (o_m_found : Nat → Int32) (o_m_seen : Nat → Int64) (o_m_unlikes : Int32), fX7_exchanges lim0 t_now_cells t_now_rows t_now_sizes t_now_rooms t_now_told t_now_acts t_choices_rows_n t_choices_rows t_choices_size t_choices_ready t_choices_pool t_choices_plies t_choices_room v1 v2 = some (r, o_t_choices_rows_n, o_t_choices_rows, o_t_choices_size, o_t_choices_ready, o_t_choices_pool, o_t_choices_plies, o_t_choices_room) ∧ fX8_exchanges m_mem m_row m_wide m_lost m_left m_mask m_mode m_wanted m_orders m_foundAt m_foundBy m_found m_seen m_unlikes v1 v2 = some (r, o_m_row, o_m_wide, o_m_lost, o_m_left, o_m_mask, o_m_mode, o_m_wanted, o_m_orders, o_m_foundAt, o_m_foundBy, o_m_found, o_m_seen, o_m_unlikes) ∧ PO t_now_cells o_t_choices_rows_n o_t_choices_rows o_t_choices_size o_t_choices_ready o_t_choices_pool o_t_choices_plies o_t_choices_room ∧ pot t_choices_rows_n + lim0 ≤ pot o_t_choices_rows_n := by
  rcases hN with hN | hN
  · obtain ⟨kn, a, l, rm, nb, rfl, rfl, rfl, rfl, h⟩ := hN.view
    have l8 := h.len
    by_cases c1 : 0 ≤ v1.toInt ∧ v1.toInt ≤ 7
    · have ask := asked_y h.is c1
      obtain ⟨q1, q2, m, hm, rfl⟩ := mask_y c1
      by_cases c2 : 0 ≤ v2.toInt
      · obtain ⟨v, rfl, hv, -⟩ := int_nat c2
        have v31 : v < 2147483648 := by have := (nI v).toInt_lt; omega
        have v0 : (0 : Int32) ≤ nI v := Int32.le_iff_toInt_le.mpr c2
        have v0' : ¬ nI v < 0 := fun q => by have := (lt0_iff _).mp q; omega
        obtain ⟨lim0, rn, rw2, p1, p2, p3, p4⟩ := h.prep hO
        have n9 : (OL nb l rm m).length ≤ 40320 := by
          have := List.length_filter_le (fun x => soB (ceQ nb) x m) (ordL rm l)
          have := p2.1
          have := p2.2.1
          unfold OL
          omega
        obtain ⟨row2, left2, o2, fa2, fb2, fo2, se2, un2, g1, g2, g3⟩ := h.mKth hm v31 n9 m_row m_wide m_lost m_left m_mask m_mode m_wanted m_orders m_foundAt m_foundBy m_found m_seen m_unlikes
        rcases p2.find hm v31 with ⟨x1, p, x2, x3, x4⟩ | ⟨x1, x4⟩
        · have g4 := g3 x1
          have p4' := p2.1
          have p5' := p2.2.1
          have x1' : v < (OL nb l rm m).length := x1
          have x3' : (ordL rm l).getD p [] = (OL nb l rm m).getD v [] := x3
          have pm := ordL_perm h.R (getD_memL x2)
          obtain ⟨t1, t2, t3⟩ := h.ordM _ (getD_memL x2)
          rw [x3'] at t1 t2 t3 pm
          have me := mEx_loop (row := row2) (left := left2) (wide := nI l.length) (lost := 0) (k0 := nI m) (k1 := 1) (k2 := nI v) (k3 := o2) (k4 := fa2) (k5 := fb2) (se := se2) (un := un2) h.R t2 t1 h.m2 h.mt g4 (EX l ((OL nb l rm m).getD v [])) l.length FU 0 0 0 (by omega) (FU_gt (by omega)) (by omega) (by rw [unt_0]; exact pm.symm) (by rw [popL_zero]) (by rw [posL_zero, unt_0, List.drop_zero, EX_comm _ _ pm.symm]; rfl)
          rw [← lit_nI0] at me
          exact ⟨lim0, nI (EX l ((OL nb l rm m).getD v [])), rn, rw2, _, _, _, _, _, row2, nI l.length, 0, left2, nI m, 1, nI v, o2, fa2, fb2, fo2, se2, un2, by rw [fX7_exchanges, q1, if_neg (by decide), if_pos v0, p1, ob7_some, x4, Option.bind_some, if_neg (m1_ne (by omega)), h.row, Option.bind_some, p2.row x2, Option.bind_some, h.plies, Option.bind_some, x3', cEx h.R t2 t1 pm, Option.bind_some], by rw [fX8_exchanges, ask, Option.bind_some, if_neg (by decide), if_pos v0, g1, ob14_some, if_pos (show nI v < o2 by rw [g2]; exact (nI_lt' v31 (by omega)).mpr x1')]; exact me, p3, p4⟩
        · have x1' : ¬ v < (OL nb l rm m).length := x1
          exact ⟨lim0, -1, rn, rw2, _, _, _, _, _, row2, nI l.length, 0, left2, nI m, 1, nI v, o2, fa2, fb2, fo2, se2, un2, by rw [fX7_exchanges, q1, if_neg (by decide), if_pos v0, p1, ob7_some, x4, Option.bind_some, if_pos rfl], by rw [fX8_exchanges, ask, Option.bind_some, if_neg (by decide), if_pos v0, g1, ob14_some, if_neg (show ¬ nI v < o2 by rw [g2]; exact fun q => x1' ((nI_lt' v31 (by omega)).mp q))], p3, p4⟩
      · have v0 : ¬ (0 : Int32) ≤ v2 := fun q => c2 (Int32.le_iff_toInt_le.mp q)
        exact ⟨0, -2, t_choices_rows_n, t_choices_rows, t_choices_size, t_choices_ready, t_choices_pool, t_choices_plies, t_choices_room, m_row, m_wide, m_lost, m_left, m_mask, m_mode, m_wanted, m_orders, m_foundAt, m_foundBy, m_found, m_seen, m_unlikes, by rw [fX7_exchanges, q1, if_neg (by decide), if_neg v0], by rw [fX8_exchanges, ask, Option.bind_some, if_neg (by decide), if_neg v0], hO, by omega⟩
    · exact ⟨0, -2, t_choices_rows_n, t_choices_rows, t_choices_size, t_choices_ready, t_choices_pool, t_choices_plies, t_choices_room, m_row, m_wide, m_lost, m_left, m_mask, m_mode, m_wanted, m_orders, m_foundAt, m_foundBy, m_found, m_seen, m_unlikes, by rw [fX7_exchanges, (mask_n c1).1, if_pos rfl], by rw [fX8_exchanges, asked_n h.is c1, Option.bind_some, if_pos rfl], hO, by omega⟩
  · obtain ⟨rfl, h2, h3, h4, h5, h6, h7, h8, h9⟩ := id hN
    exact ⟨0, -2, t_choices_rows_n, t_choices_rows, t_choices_size, t_choices_ready, t_choices_pool, t_choices_plies, t_choices_room, m_row, m_wide, m_lost, m_left, m_mask, m_mode, m_wanted, m_orders, m_foundAt, m_foundBy, m_found, m_seen, m_unlikes, by rw [fX7_exchanges, fX7_isMask, if_pos rfl, if_pos rfl], by rw [fX8_exchanges, asked_0 (mIs0 (h9 3 (by omega))), Option.bind_some, if_pos rfl], hO, by omega⟩
set_option maxHeartbeats 1000000 in
set_option maxRecDepth 100000 in
theorem cs_many (t_now_rows : Nat → Int32) (t_now_sizes : Nat → Int32) (t_now_told : Int32) (t_now_kinds : Int32) (t_now_acts : Int32) (m_mem : Nat → Int32) (t_now_numbers : Nat → Int32) (t_now_cells : Nat → Int32) (t_now_rooms : Nat → Int32) (t_now_lines : Int32) (m_acted : Int32) (m_past : Nat → Int32) (v1 : Int32) (v2 : Int32) (hN : PN t_now_numbers t_now_cells t_now_rows t_now_sizes t_now_rooms t_now_told t_now_lines t_now_kinds t_now_acts m_mem m_acted m_past) : ∃ (r : Int32), fX7_many t_now_rows t_now_sizes t_now_told t_now_kinds t_now_acts v1 v2 = some r ∧ fX8_many m_mem v1 v2 = some r := by
  rcases hN with hN | hN
  · obtain ⟨kn, a, l, rm, nb, rfl, rfl, rfl, rfl, h⟩ := hN.view
    by_cases c1 : 0 ≤ v1.toInt ∧ v1.toInt < kn
    · by_cases c2 : 0 ≤ v2.toInt ∧ v2.toInt < 4
      · obtain ⟨i, rfl, hi, -⟩ := int_nat c1.1
        obtain ⟨j, rfl, hj, -⟩ := int_nat c2.1
        have k3 := h.kn3
        exact ⟨nI (l.count (4 * i + j)), by simp only [fX7_many, h.ckind, if_pos c1, cIsAngle, if_pos c2, e10, if_false, h.row, h.plies, Option.bind_some]; rw [lit_nI4, nI_mul, nI_add, show i * 4 + j = 4 * i + j by omega, howMany_pk h.R (by omega), Option.bind_some], by simp only [fX8_many, h.mkind, if_pos c1, mIn3, if_pos c2, Option.bind_some, e10, if_false]; exact (many_loop h.R h.m2 h.mt (t := 4 * i + j) (by omega) (by rw [lit_nI4, nI_mul, nI_add]) l.length FU 0 0 (by omega) (FU_gt (by have := h.len; omega))).trans (by rw [Nat.zero_add]; rfl)⟩
      · exact ⟨-2, by simp only [fX7_many, h.ckind, if_pos c1, cIsAngle, if_neg c2, e10, if_false, if_true], by simp only [fX8_many, h.mkind, if_pos c1, mIn3, if_neg c2, Option.bind_some, e10, if_false, if_true]⟩
    · exact ⟨-2, by simp only [fX7_many, h.ckind, if_neg c1, if_true], by simp only [fX8_many, h.mkind, if_neg c1, Option.bind_some, if_true]⟩
  · obtain ⟨rfl, h2, h3, h4, h5, h6, h7, h8, h9⟩ := id hN
    exact ⟨-2, by simp only [fX7_many, fX7_isKind, if_true], by simp only [fX8_many, mIsKind (show m_mem 1 = nI 0 from h9 1 (by omega)) (show 0 < 1000 by omega), if_neg (show ¬ (0 ≤ v1.toInt ∧ v1.toInt < ((0 : Nat) : Int)) by omega), Option.bind_some, if_true]⟩
set_option maxHeartbeats 1000000 in
set_option maxRecDepth 100000 in
theorem cs_swap (t_now_rows : Nat → Int32) (t_now_sizes : Nat → Int32) (t_now_rooms : Nat → Int32) (t_now_told : Int32) (t_now_acts : Int32) (m_mem : Nat → Int32) (m_acted : Int32) (m_past : Nat → Int32) (t_now_numbers : Nat → Int32) (t_now_cells : Nat → Int32) (t_now_lines : Int32) (t_now_kinds : Int32) (v1 : Int32) (v2 : Int32) (hN : PN t_now_numbers t_now_cells t_now_rows t_now_sizes t_now_rooms t_now_told t_now_lines t_now_kinds t_now_acts m_mem m_acted m_past) : ∃ (r : Int32) (o_t_now_rows : Nat → Int32) (o_t_now_sizes : Nat → Int32) (o_t_now_rooms : Nat → Int32) (o_t_now_acts : Int32) (o_m_mem : Nat → Int32) (o_m_acted : Int32) (o_m_past : Nat → Int32), fX7_swap t_now_rows t_now_sizes t_now_rooms t_now_told t_now_acts v1 v2 = some (r, o_t_now_rows, o_t_now_sizes, o_t_now_rooms, o_t_now_acts) ∧ fX8_swap m_mem m_acted m_past v1 v2 = some (r, o_m_mem, o_m_acted, o_m_past) ∧ PN t_now_numbers t_now_cells o_t_now_rows o_t_now_sizes o_t_now_rooms t_now_told t_now_lines t_now_kinds o_t_now_acts o_m_mem o_m_acted o_m_past := by
  rcases hN with hN | hN
  · obtain ⟨kn, a, ln, rfl, rfl, rfl, rfl, ha, hlines, hln1, hln2, hPl, hpast, hs⟩ := id hN
    obtain ⟨l, rm, hl8, hlt, hrm1, hrm8, hrow, hsize, hroom, m0, m1, m2, m3, mk, mt⟩ := id hs
    have hk3 := hPl.1
    have hn : l.length < 1000 := by omega
    have hR : R16 l := ⟨fun t ht => by have := hlt t ht; omega, hl8⟩
    by_cases c1 : 0 ≤ v1.toInt ∧ v1.toInt < l.length
    · by_cases c2 : 0 ≤ v2.toInt ∧ v2.toInt < l.length
      · obtain ⟨i, rfl, hi, -⟩ := int_nat c1.1
        obtain ⟨j, rfl, hj, -⟩ := int_nat c2.1
        have hi8 : i < l.length := by omega
        have hj8 : j < l.length := by omega
        have ki : i < 8 := by omega
        have kj : j < 8 := by omega
        have gi := getD_lt12 hR i
        have gj := getD_lt12 hR j
        by_cases e : l.getD i 0 = l.getD j 0
        · have e' : nI (l.getD i 0) = nI (l.getD j 0) := by rw [e]
          exact ⟨-5, t_now_rows, t_now_sizes, t_now_rooms, nI a, m_mem, nI a, m_past, by simp only [fX7_swap, cIsPly ha hsize hn, if_pos c1, if_pos c2, Option.bind_some, e10, if_false, cTypeAt ha hR hrow ki, cTypeAt ha hR hrow kj, if_pos e'], by simp only [fX8_swap, mIsPly m2 hn, if_pos c1, if_pos c2, Option.bind_some, e10, if_false, chk19 ki, chk19 kj, clamp19 ki, mt i hi8, clamp19 kj, mt j hj8, if_pos e'], Or.inl hN⟩
        · have e' := nI_ne e (by omega) (by omega)
          by_cases f : a < 30
          · refine ⟨0, _, _, _, _, _, _, _, by simp only [fX7_swap, cIsPly ha hsize hn, if_pos c1, if_pos c2, Option.bind_some, e10, if_false, cTypeAt ha hR hrow ki, cTypeAt ha hR hrow kj, if_neg e', cFull ha, if_pos f, if_true, cRow ha, cPlies ha, cRoom ha, hrow, with_pk hR gj hi8, with_pk (hR.set gj) gi (show j < (l.set i (l.getD j 0)).length by rw [List.length_set]; omega), cAct f, ob4_some]; rfl, by simp only [fX8_swap, mIsPly m2 hn, if_pos c1, if_pos c2, Option.bind_some, e10, if_false, chk19 ki, chk19 kj, clamp19 ki, mt i hi8, clamp19 kj, mt j hj8, if_neg e', mFull ha, if_pos f, if_true, mKeeps f, ob2_some]; rfl, Or.inl ?_⟩
            have hlen : ((l.set i (l.getD j 0)).set j (l.getD i 0)).length = l.length := by rw [List.length_set, List.length_set]
            rw [hsize, hroom]
            refine PNt.act f hlines hln1 hln2 hPl hpast hs ?_
            rw [← hlen]
            refine Snap.types hk3 hrm1 hrm8 m0 m1 m3 mk (by omega) ?_ ?_ ?_ ?_
            · intro t ht
              rcases mem_set ht with q | q
              · rcases mem_set q with q | q
                · exact hlt t q
                · rw [q]; exact hlt _ (getD_mem hj8)
              · rw [q]; exact hlt _ (getD_mem hi8)
            · intro k h1 h2
              rw [upd_ne _ _ (by omega), upd_ne _ _ (by omega)]
            · rw [upd_ne _ _ (by omega), upd_ne _ _ (by omega), hlen]
              exact m2
            · intro p hp
              rw [hlen] at hp
              rw [getD_set (by rw [List.length_set]; omega), getD_set hi8]
              by_cases e1 : p = j
              · rw [if_pos e1, e1, upd_same]
              · rw [if_neg e1, upd_ne _ _ (by omega)]
                by_cases e2 : p = i
                · rw [if_pos e2, e2, upd_same]
                · rw [if_neg e2, upd_ne _ _ (by omega)]
                  exact mt p hp
          · exact ⟨-5, t_now_rows, t_now_sizes, t_now_rooms, nI a, m_mem, nI a, m_past, by simp only [fX7_swap, cIsPly ha hsize hn, if_pos c1, if_pos c2, Option.bind_some, e10, if_false, cTypeAt ha hR hrow ki, cTypeAt ha hR hrow kj, if_neg e', cFull ha, if_neg f], by simp only [fX8_swap, mIsPly m2 hn, if_pos c1, if_pos c2, Option.bind_some, e10, if_false, chk19 ki, chk19 kj, clamp19 ki, mt i hi8, clamp19 kj, mt j hj8, if_neg e', mFull ha, if_neg f], Or.inl hN⟩
      · exact ⟨-2, t_now_rows, t_now_sizes, t_now_rooms, nI a, m_mem, nI a, m_past, by simp only [fX7_swap, cIsPly ha hsize hn, if_pos c1, if_neg c2, Option.bind_some, e10, if_false, if_true], by simp only [fX8_swap, mIsPly m2 hn, if_pos c1, if_neg c2, Option.bind_some, e10, if_false, if_true], Or.inl hN⟩
    · exact ⟨-2, t_now_rows, t_now_sizes, t_now_rooms, nI a, m_mem, nI a, m_past, by simp only [fX7_swap, cIsPly ha hsize hn, if_neg c1, Option.bind_some, if_true], by simp only [fX8_swap, mIsPly m2 hn, if_neg c1, Option.bind_some, if_true], Or.inl hN⟩
  · obtain ⟨rfl, h2, h3, h4, h5, h6, h7, h8, h9⟩ := id hN
    have m2 : m_mem 2 = nI 0 := h9 2 (by omega)
    have c1 : ¬ (0 ≤ v1.toInt ∧ v1.toInt < ((0 : Nat) : Int)) := by omega
    exact ⟨-2, t_now_rows, t_now_sizes, t_now_rooms, t_now_acts, m_mem, m_acted, m_past, by simp only [fX7_swap, fX7_isPly, Option.bind_some, if_true], by simp only [fX8_swap, mIsPly m2 (show 0 < 1000 by omega), if_neg c1, Option.bind_some, if_true], Or.inr hN⟩
set_option maxHeartbeats 1000000 in
set_option maxRecDepth 100000 in
theorem cs_turn (t_now_rows : Nat → Int32) (t_now_sizes : Nat → Int32) (t_now_rooms : Nat → Int32) (t_now_told : Int32) (t_now_acts : Int32) (m_mem : Nat → Int32) (m_acted : Int32) (m_past : Nat → Int32) (t_now_numbers : Nat → Int32) (t_now_cells : Nat → Int32) (t_now_lines : Int32) (t_now_kinds : Int32) (v1 : Int32) (v2 : Int32) (hN : PN t_now_numbers t_now_cells t_now_rows t_now_sizes t_now_rooms t_now_told t_now_lines t_now_kinds t_now_acts m_mem m_acted m_past) : ∃ (r : Int32) (o_t_now_rows : Nat → Int32) (o_t_now_sizes : Nat → Int32) (o_t_now_rooms : Nat → Int32) (o_t_now_acts : Int32) (o_m_mem : Nat → Int32) (o_m_acted : Int32) (o_m_past : Nat → Int32), fX7_turn t_now_rows t_now_sizes t_now_rooms t_now_told t_now_acts v1 v2 = some (r, o_t_now_rows, o_t_now_sizes, o_t_now_rooms, o_t_now_acts) ∧ fX8_turn m_mem m_acted m_past v1 v2 = some (r, o_m_mem, o_m_acted, o_m_past) ∧ PN t_now_numbers t_now_cells o_t_now_rows o_t_now_sizes o_t_now_rooms t_now_told t_now_lines t_now_kinds o_t_now_acts o_m_mem o_m_acted o_m_past := by
  rcases hN with hN | hN
  · obtain ⟨kn, a, ln, rfl, rfl, rfl, rfl, ha, hlines, hln1, hln2, hPl, hpast, hs⟩ := id hN
    obtain ⟨l, rm, hl8, hlt, hrm1, hrm8, hrow, hsize, hroom, m0, m1, m2, m3, mk, mt⟩ := id hs
    have hk3 := hPl.1
    have hn : l.length < 1000 := by omega
    have hR : R16 l := ⟨fun t ht => by have := hlt t ht; omega, hl8⟩
    by_cases c1 : 0 ≤ v1.toInt ∧ v1.toInt < l.length
    · by_cases c2 : 0 ≤ v2.toInt ∧ v2.toInt < 4
      · obtain ⟨i, rfl, hi, -⟩ := int_nat c1.1
        obtain ⟨j, rfl, hj, -⟩ := int_nat c2.1
        have hi8 : i < l.length := by omega
        have ki : i < 8 := by omega
        have gi := getD_lt12 hR i
        have gk := hlt _ (getD_mem hi8)
        have er : irem (nI (l.getD i 0)) 4 = nI (l.getD i 0 % 4) := irem_nI (b := 4) (by omega) (by omega) (by omega)
        by_cases e : l.getD i 0 % 4 = j
        · have e' : nI (l.getD i 0 % 4) = nI j := by rw [e]
          exact ⟨-5, t_now_rows, t_now_sizes, t_now_rooms, nI a, m_mem, nI a, m_past, by simp only [fX7_turn, cIsPly ha hsize hn, if_pos c1, cIsAngle, if_pos c2, Option.bind_some, e10, if_false, cTypeAt ha hR hrow ki, er, if_pos e'], by simp only [fX8_turn, mIsPly m2 hn, if_pos c1, mIn3, if_pos c2, Option.bind_some, e10, if_false, chk19 ki, clamp19 ki, mt i hi8, er, if_pos e'], Or.inl hN⟩
        · have e' := nI_ne e (by omega) (by omega)
          by_cases f : a < 30
          · have ev : nI (l.getD i 0) + (nI j - nI (l.getD i 0 % 4)) = nI (l.getD i 0 - l.getD i 0 % 4 + j) := by
              rw [nI_i32, nI_i32, nI_i32, nI_i32, ← i32_sub, ← i32_add]
              congr 1
              omega
            have ew : (nI (l.getD i 0) - nI (l.getD i 0 % 4)) + nI j = nI (l.getD i 0 - l.getD i 0 % 4 + j) := by rw [nI_sub (Nat.mod_le _ _), nI_add]
            refine ⟨nI (l.getD i 0 % 4), _, _, _, _, _, _, _, by simp only [fX7_turn, cIsPly ha hsize hn, if_pos c1, cIsAngle, if_pos c2, Option.bind_some, e10, if_false, cTypeAt ha hR hrow ki, er, if_neg e', cFull ha, if_pos f, if_true, cRow ha, cPlies ha, cRoom ha, hrow, ew, with_pk hR (show l.getD i 0 - l.getD i 0 % 4 + j < 12 by omega) hi8, cAct f, ob4_some]; rfl, by simp only [fX8_turn, mIsPly m2 hn, if_pos c1, mIn3, if_pos c2, Option.bind_some, e10, if_false, chk19 ki, clamp19 ki, mt i hi8, er, if_neg e', mFull ha, if_pos f, if_true, mKeeps f, ob2_some, ev]; rfl, Or.inl ?_⟩
            have hlen : (l.set i (l.getD i 0 - l.getD i 0 % 4 + j)).length = l.length := List.length_set
            rw [hsize, hroom]
            refine PNt.act f hlines hln1 hln2 hPl hpast hs ?_
            rw [← hlen]
            refine Snap.types hk3 hrm1 hrm8 m0 m1 m3 mk (by omega) ?_ ?_ ?_ ?_
            · intro t ht
              rcases mem_set ht with q | q
              · exact hlt t q
              · omega
            · intro k h1 h2
              rw [upd_ne _ _ (by omega)]
            · rw [upd_ne _ _ (by omega), hlen]
              exact m2
            · intro p hp
              rw [hlen] at hp
              rw [getD_set hi8]
              by_cases e1 : p = i
              · rw [if_pos e1, e1, upd_same]
              · rw [if_neg e1, upd_ne _ _ (by omega)]
                exact mt p hp
          · exact ⟨-5, t_now_rows, t_now_sizes, t_now_rooms, nI a, m_mem, nI a, m_past, by simp only [fX7_turn, cIsPly ha hsize hn, if_pos c1, cIsAngle, if_pos c2, Option.bind_some, e10, if_false, cTypeAt ha hR hrow ki, er, if_neg e', cFull ha, if_neg f], by simp only [fX8_turn, mIsPly m2 hn, if_pos c1, mIn3, if_pos c2, Option.bind_some, e10, if_false, chk19 ki, clamp19 ki, mt i hi8, er, if_neg e', mFull ha, if_neg f], Or.inl hN⟩
      · exact ⟨-2, t_now_rows, t_now_sizes, t_now_rooms, nI a, m_mem, nI a, m_past, by simp only [fX7_turn, cIsPly ha hsize hn, if_pos c1, cIsAngle, if_neg c2, Option.bind_some, e10, if_false, if_true], by simp only [fX8_turn, mIsPly m2 hn, if_pos c1, mIn3, if_neg c2, Option.bind_some, e10, if_false, if_true], Or.inl hN⟩
    · exact ⟨-2, t_now_rows, t_now_sizes, t_now_rooms, nI a, m_mem, nI a, m_past, by simp only [fX7_turn, cIsPly ha hsize hn, if_neg c1, Option.bind_some, if_true], by simp only [fX8_turn, mIsPly m2 hn, if_neg c1, Option.bind_some, if_true], Or.inl hN⟩
  · obtain ⟨rfl, h2, h3, h4, h5, h6, h7, h8, h9⟩ := id hN
    have m2 : m_mem 2 = nI 0 := h9 2 (by omega)
    have c1 : ¬ (0 ≤ v1.toInt ∧ v1.toInt < ((0 : Nat) : Int)) := by omega
    exact ⟨-2, t_now_rows, t_now_sizes, t_now_rooms, t_now_acts, m_mem, m_acted, m_past, by simp only [fX7_turn, fX7_isPly, Option.bind_some, if_true], by simp only [fX8_turn, mIsPly m2 (show 0 < 1000 by omega), if_neg c1, Option.bind_some, if_true], Or.inr hN⟩
set_option maxHeartbeats 1000000 in
set_option maxRecDepth 100000 in
theorem cs_put (t_now_rows : Nat → Int32) (t_now_sizes : Nat → Int32) (t_now_rooms : Nat → Int32) (t_now_told : Int32) (t_now_kinds : Int32) (t_now_acts : Int32) (m_mem : Nat → Int32) (m_acted : Int32) (m_past : Nat → Int32) (t_now_numbers : Nat → Int32) (t_now_cells : Nat → Int32) (t_now_lines : Int32) (v1 : Int32) (v2 : Int32) (v3 : Int32) (hN : PN t_now_numbers t_now_cells t_now_rows t_now_sizes t_now_rooms t_now_told t_now_lines t_now_kinds t_now_acts m_mem m_acted m_past) : ∃ (r : Int32) (o_t_now_rows : Nat → Int32) (o_t_now_sizes : Nat → Int32) (o_t_now_rooms : Nat → Int32) (o_t_now_acts : Int32) (o_m_mem : Nat → Int32) (o_m_acted : Int32) (o_m_past : Nat → Int32), fX7_put t_now_rows t_now_sizes t_now_rooms t_now_told t_now_kinds t_now_acts v1 v2 v3 = some (r, o_t_now_rows, o_t_now_sizes, o_t_now_rooms, o_t_now_acts) ∧ fX8_put m_mem m_acted m_past v1 v2 v3 = some (r, o_m_mem, o_m_acted, o_m_past) ∧ PN t_now_numbers t_now_cells o_t_now_rows o_t_now_sizes o_t_now_rooms t_now_told t_now_lines t_now_kinds o_t_now_acts o_m_mem o_m_acted o_m_past := by
  rcases hN with hN | hN
  · obtain ⟨kn, a, l, rm, nb, rfl, rfl, rfl, rfl, h⟩ := hN.view
    have l8 := h.len
    have ha := h.a30
    have k3 := h.kn3
    have no : ∀ r : Int32, fX7_put t_now_rows t_now_sizes t_now_rooms 1 (nI kn) (nI a) v1 v2 v3 = some (r, t_now_rows, t_now_sizes, t_now_rooms, nI a) → fX8_put m_mem (nI a) m_past v1 v2 v3 = some (r, m_mem, nI a, m_past) → ∃ (r : Int32) (o_t_now_rows : Nat → Int32) (o_t_now_sizes : Nat → Int32) (o_t_now_rooms : Nat → Int32) (o_t_now_acts : Int32) (o_m_mem : Nat → Int32) (o_m_acted : Int32) (o_m_past : Nat → Int32), fX7_put t_now_rows t_now_sizes t_now_rooms 1 (nI kn) (nI a) v1 v2 v3 = some (r, o_t_now_rows, o_t_now_sizes, o_t_now_rooms, o_t_now_acts) ∧ fX8_put m_mem (nI a) m_past v1 v2 v3 = some (r, o_m_mem, o_m_acted, o_m_past) ∧ PN t_now_numbers t_now_cells o_t_now_rows o_t_now_sizes o_t_now_rooms 1 t_now_lines (nI kn) o_t_now_acts o_m_mem o_m_acted o_m_past := fun r x y => ⟨r, _, _, _, _, _, _, _, x, y, Or.inl hN⟩
    have x1 : fX7_put t_now_rows t_now_sizes t_now_rooms 1 (nI kn) (nI a) v1 v2 v3 = if v1 < 0 then some (-2, t_now_rows, t_now_sizes, t_now_rooms, nI a) else if nI l.length < v1 then some (-2, t_now_rows, t_now_sizes, t_now_rooms, nI a) else if ¬ (0 ≤ v2.toInt ∧ v2.toInt < kn) then some (-2, t_now_rows, t_now_sizes, t_now_rooms, nI a) else if ¬ (0 ≤ v3.toInt ∧ v3.toInt < 4) then some (-2, t_now_rows, t_now_sizes, t_now_rooms, nI a) else if 8 ≤ nI l.length then some (-5, t_now_rows, t_now_sizes, t_now_rooms, nI a) else if a < 30 then (fX3_inserted (pk l) (nI l.length) v1 ((v2 * 4) + v3)).bind fun r17 => some (nI l.length + 1, upd t_now_rows (a + 1) r17, upd t_now_sizes (a + 1) (nI l.length + 1), upd t_now_rooms (a + 1) (nI rm), nI (a + 1)) else some (-5, t_now_rows, t_now_sizes, t_now_rooms, nI a) := by
      rw [fX7_put, if_neg (by decide), h.plies, Option.bind_some, h.ckind, cIsAngle, cFull ha, h.row, Option.bind_some, h.room]
      by_cases b1 : 0 ≤ v2.toInt ∧ v2.toInt < kn <;> by_cases b2 : 0 ≤ v3.toInt ∧ v3.toInt < 4 <;> by_cases b3 : a < 30 <;> simp only [b1, b2, b3, if_true, if_false, e10, not_true_eq_false, not_false_eq_true, and_self, Option.bind_some, cAct, ob4_some]
    by_cases c1 : 0 ≤ v1.toInt ∧ v1.toInt ≤ l.length
    · by_cases c2 : 0 ≤ v2.toInt ∧ v2.toInt < kn
      · by_cases c3 : 0 ≤ v3.toInt ∧ v3.toInt < 4
        · obtain ⟨i, rfl, hi, -⟩ := int_nat c1.1
          obtain ⟨j, rfl, hj, -⟩ := int_nat c2.1
          obtain ⟨k, rfl, hk, -⟩ := int_nat c3.1
          have i8 : i ≤ l.length := by omega
          have n0 : ¬ nI i < 0 := by rw [lt0_iff]; omega
          have e : nI j * 4 + nI k = nI (4 * j + k) := by rw [lit_nI4, nI_mul, nI_add, Nat.mul_comm]
          have e' : 4 * nI j + nI k = nI (4 * j + k) := by rw [lit_nI4, nI_mul, nI_add]
          have y1 : fX8_put m_mem (nI a) m_past (nI i) (nI j) (nI k) = if nI l.length = 8 then some (-5, m_mem, nI a, m_past) else if a < 30 then fX8_put_79 FU m_mem (nI (a + 1)) (kp m_mem m_past a 0) (nI i) (nI j) (nI k) (nI l.length) else some (-5, m_mem, nI a, m_past) := by
            rw [fX8_put, h.is, Option.bind_some, if_neg (by decide), h.m2, mIn0 (by omega), if_pos c1, if_neg (by decide), h.mkind, Option.bind_some, if_pos c2, if_neg (by decide), mIn3, if_pos c3, if_neg (by decide), mFull ha]
            by_cases f : a < 30
            · rw [if_pos f, if_pos f, if_pos rfl, mKeeps f, ob2_some]
            · rw [if_neg f, if_neg f, if_neg (show ¬ (1 : Int32) = 0 by decide)]
          rw [if_neg n0, if_lt_n i8 (by omega), if_neg (fun q => q c2), if_neg (fun q => q c3)] at x1
          by_cases c4 : l.length = 8
          · exact no (-5) (by rw [x1, if_pos (by rw [c4]; decide)]) (by rw [y1, if_pos (by rw [c4]; rfl)])
          · rw [lit_nI8, if_le_n (by omega) (by omega)] at x1
            rw [lit_nI8, if_eq_n c4 (by omega) (by omega)] at y1
            by_cases f : a < 30
            · rw [if_pos f, e, cIns h.R (by omega) i8 (by omega), Option.bind_some, nI_s] at x1
              rw [if_pos f] at y1
              obtain ⟨mem2, d1, d2⟩ := mPut_loop (acted := nI (a + 1)) (past := kp m_mem m_past a 0) (v2 := nI j) (v3 := nI k) (a := i) (l.length - i) FU m_mem (by omega) (FU_gt (by omega))
              rw [show i + (l.length - i) = l.length by omega] at d1
              rw [d1, fX8_put_113, chk19 (by omega), clamp19 (by omega), e', upd_same, upd_ne _ _ (show (2 : Nat) ≠ 19 + i by omega), d2 2, if_neg (by omega), h.m2, nI_s] at y1
              have hL := insL_len (t := 4 * j + k) i8
              refine ⟨_, _, _, _, _, _, _, _, x1, y1, Or.inl ?_⟩
              rw [← hL]
              refine hN.act2 h rfl f (by omega) (fun t ht => by
                rcases insL_mem ht with q | q
                · exact h.lt t q
                · omega) (fun q h1 h2 => by rw [upd_ne _ _ h2, upd_ne _ _ (by omega), d2 q, if_neg (by omega)]) (by rw [upd_same]) (fun p hp => ?_)
              rw [upd_ne _ _ (by omega), insL_at i8]
              by_cases z1 : p = i
              · rw [z1, upd_same, if_neg (by omega), if_pos rfl]
              · rw [upd_ne _ _ (by omega), d2]
                by_cases z2 : p < i
                · rw [if_neg (by omega), if_pos z2]; exact h.mt p (by omega)
                · rw [if_pos (by omega), if_neg z2, if_neg z1, show 19 + p - 1 = 19 + (p - 1) by omega]; exact h.mt _ (by omega)
            · exact no (-5) (by rw [x1, if_neg f]) (by rw [y1, if_neg f])
        · refine no (-2) ?_ (by rw [fX8_put, h.is, Option.bind_some, if_neg (by decide), h.m2, mIn0 (by omega), if_pos c1, if_neg (by decide), h.mkind, Option.bind_some, if_pos c2, if_neg (by decide), mIn3, if_neg c3, if_pos rfl])
          rw [x1, if_pos c3]
          split <;> (try rfl) <;> split <;> (try rfl) <;> split <;> rfl
      · refine no (-2) ?_ (by rw [fX8_put, h.is, Option.bind_some, if_neg (by decide), h.m2, mIn0 (by omega), if_pos c1, if_neg (by decide), h.mkind, Option.bind_some, if_neg c2, if_pos rfl])
        rw [x1, if_pos c2]
        split <;> (try rfl) <;> split <;> rfl
    · refine no (-2) ?_ (by rw [fX8_put, h.is, Option.bind_some, if_neg (by decide), h.m2, mIn0 (by omega), if_neg c1, if_pos rfl])
      rw [x1]
      by_cases d : v1 < 0
      · rw [if_pos d]
      · rw [if_neg d, if_pos]
        rw [lt0_iff] at d
        rw [Int32.lt_iff_toInt_lt, nI_int (by omega)]
        omega
  · obtain ⟨rfl, h2, h3, h4, h5, h6, h7, h8, h9⟩ := id hN
    exact ⟨-2, t_now_rows, t_now_sizes, t_now_rooms, t_now_acts, m_mem, m_acted, m_past, by simp only [fX7_put, if_true], by simp only [fX8_put, mIs0 (h9 3 (by omega)), Option.bind_some, if_true], Or.inr hN⟩
set_option maxHeartbeats 1000000 in
set_option maxRecDepth 100000 in
theorem cs_drop (t_now_rows : Nat → Int32) (t_now_sizes : Nat → Int32) (t_now_rooms : Nat → Int32) (t_now_told : Int32) (t_now_acts : Int32) (m_mem : Nat → Int32) (m_acted : Int32) (m_past : Nat → Int32) (m_row : Nat → Int32) (m_wide : Int32) (m_lost : Int32) (t_now_numbers : Nat → Int32) (t_now_cells : Nat → Int32) (t_now_lines : Int32) (t_now_kinds : Int32) (v1 : Int32) (hN : PN t_now_numbers t_now_cells t_now_rows t_now_sizes t_now_rooms t_now_told t_now_lines t_now_kinds t_now_acts m_mem m_acted m_past) : ∃ (r : Int32) (o_t_now_rows : Nat → Int32) (o_t_now_sizes : Nat → Int32) (o_t_now_rooms : Nat → Int32) (o_t_now_acts : Int32) (o_m_mem : Nat → Int32) (o_m_acted : Int32) (o_m_past : Nat → Int32) (o_m_row : Nat → Int32) (o_m_wide : Int32) (o_m_lost : Int32), fX7_drop t_now_rows t_now_sizes t_now_rooms t_now_told t_now_acts v1 = some (r, o_t_now_rows, o_t_now_sizes, o_t_now_rooms, o_t_now_acts) ∧ fX8_drop m_mem m_acted m_past m_row m_wide m_lost v1 = some (r, o_m_mem, o_m_acted, o_m_past, o_m_row, o_m_wide, o_m_lost) ∧ PN t_now_numbers t_now_cells o_t_now_rows o_t_now_sizes o_t_now_rooms t_now_told t_now_lines t_now_kinds o_t_now_acts o_m_mem o_m_acted o_m_past := by
  rcases hN with hN | hN
  · obtain ⟨kn, a, l, rm, nb, rfl, rfl, rfl, rfl, h⟩ := hN.view
    have l8 := h.len
    have ha := h.a30
    by_cases c1 : 0 ≤ v1.toInt ∧ v1.toInt < l.length
    · obtain ⟨i, rfl, hi, -⟩ := int_nat c1.1
      have i8 : i < l.length := by omega
      obtain ⟨q1, q2, q3⟩ := drop_set _ (hi_bit h.R) i i8
      by_cases f : a < 30
      · obtain ⟨mem2, row', wide', e1, e2, e3, e4⟩ := h.stay hN rfl f q3 m_row m_wide m_lost
        refine ⟨nI (pop (2 ^ l.length - 1 - 2 ^ i)), _, _, _, _, _, _, _, row', wide', 0, ?_, ?_, Or.inl e4⟩
        · rw [fX7_drop, h.cply, Option.bind_some, if_pos c1, if_neg (by decide), cFull ha, if_pos f, if_pos rfl, h.all, Option.bind_some, bit1 i (by omega), q1, e1, ob4_some, cPlies (by omega), upd_same, Option.bind_some]
        · rw [fX8_drop, h.mply, Option.bind_some, if_pos c1, if_neg (by decide), mFull ha, if_pos f, if_pos rfl, h.mall, Option.bind_some, bit1 i (by omega), q2, e2, ob6_some, e3]
      · exact ⟨-5, _, _, _, _, _, _, _, m_row, m_wide, m_lost, by rw [fX7_drop, h.cply, Option.bind_some, if_pos c1, if_neg (by decide), cFull ha, if_neg f, if_neg (by decide)], by rw [fX8_drop, h.mply, Option.bind_some, if_pos c1, if_neg (by decide), mFull ha, if_neg f, if_neg (by decide)], Or.inl hN⟩
    · exact ⟨-2, _, _, _, _, _, _, _, m_row, m_wide, m_lost, by rw [fX7_drop, h.cply, Option.bind_some, if_neg c1, if_pos rfl], by rw [fX8_drop, h.mply, Option.bind_some, if_neg c1, if_pos rfl], Or.inl hN⟩
  · obtain ⟨rfl, h2, h3, h4, h5, h6, h7, h8, h9⟩ := id hN
    have m2 : m_mem 2 = nI 0 := h9 2 (by omega)
    have c1 : ¬ (0 ≤ v1.toInt ∧ v1.toInt < ((0 : Nat) : Int)) := by omega
    exact ⟨-2, t_now_rows, t_now_sizes, t_now_rooms, t_now_acts, m_mem, m_acted, m_past, m_row, m_wide, m_lost, by simp only [fX7_drop, fX7_isPly, Option.bind_some, if_true], by simp only [fX8_drop, mIsPly m2 (show 0 < 1000 by omega), if_neg c1, Option.bind_some, if_true], Or.inr hN⟩
set_option maxHeartbeats 1000000 in
set_option maxRecDepth 100000 in
theorem cs_become (t_now_cells : Nat → Int32) (t_now_rows : Nat → Int32) (t_now_sizes : Nat → Int32) (t_now_rooms : Nat → Int32) (t_now_told : Int32) (t_now_acts : Int32) (t_choices_rows_n : Nat) (t_choices_rows : Nat → Int64) (t_choices_size : Int32) (t_choices_ready : Int32) (t_choices_pool : Int32) (t_choices_plies : Int32) (t_choices_room : Int32) (m_mem : Nat → Int32) (m_acted : Int32) (m_past : Nat → Int32) (m_row : Nat → Int32) (m_wide : Int32) (m_lost : Int32) (m_left : Nat → Int32) (m_mask : Int32) (m_mode : Int32) (m_wanted : Int32) (m_orders : Int32) (m_foundAt : Int32) (m_foundBy : Int64) (m_found : Nat → Int32) (m_seen : Nat → Int64) (m_unlikes : Int32) (t_now_numbers : Nat → Int32) (t_now_lines : Int32) (t_now_kinds : Int32) (v1 : Int32) (v2 : Int32) (hN : PN t_now_numbers t_now_cells t_now_rows t_now_sizes t_now_rooms t_now_told t_now_lines t_now_kinds t_now_acts m_mem m_acted m_past) (hO : PO t_now_cells t_choices_rows_n t_choices_rows t_choices_size t_choices_ready t_choices_pool t_choices_plies t_choices_room) : ∃ (lim0 : Nat) (r : Int32) (o_t_now_rows : Nat → Int32) (o_t_now_sizes : Nat → Int32) (o_t_now_rooms : Nat → Int32) (o_t_now_acts : Int32) (o_t_choices_rows_n : Nat) (o_t_choices_rows : Nat → Int64) (o_t_choices_size : Int32) (o_t_choices_ready : Int32) (o_t_choices_pool : Int32) (o_t_choices_plies : Int32) (o_t_choices_room : Int32) (o_m_mem : Nat → Int32) (o_m_acted : Int32) (o_m_past : Nat → Int32) (o_m_row : Nat → Int32) (o_m_wide : Int32) (o_m_lost : Int32) (o_m_left : Nat → Int32) (o_m_mask : Int32) (o_m_mode : Int32) (o_m_wanted : Int32) (o_m_orders : Int32) (o_m_foundAt : Int32) (o_m_foundBy : Int64) (o_m_found : Nat → Int32) (o_m_seen : Nat → Int64) (o_m_unlikes : Int32), fX7_become lim0 t_now_cells t_now_rows t_now_sizes t_now_rooms t_now_told t_now_acts t_choices_rows_n t_choices_rows t_choices_size t_choices_ready t_choices_pool t_choices_plies t_choices_room v1 v2 = some (r, o_t_now_rows, o_t_now_sizes, o_t_now_rooms, o_t_now_acts, o_t_choices_rows_n, o_t_choices_rows, o_t_choices_size, o_t_choices_ready, o_t_choices_pool, o_t_choices_plies, o_t_choices_room) ∧ fX8_become m_mem m_acted m_past m_row m_wide m_lost m_left m_mask m_mode m_wanted m_orders m_foundAt m_foundBy m_found m_seen m_unlikes v1 v2 = some (r, o_m_mem, o_m_acted, o_m_past, o_m_row, o_m_wide, o_m_lost, o_m_left, o_m_mask, o_m_mode, o_m_wanted, o_m_orders, o_m_foundAt, o_m_foundBy, o_m_found, o_m_seen, o_m_unlikes) ∧ PN t_now_numbers t_now_cells o_t_now_rows o_t_now_sizes o_t_now_rooms t_now_told t_now_lines t_now_kinds o_t_now_acts o_m_mem o_m_acted o_m_past ∧ PO t_now_cells o_t_choices_rows_n o_t_choices_rows o_t_choices_size o_t_choices_ready o_t_choices_pool o_t_choices_plies o_t_choices_room ∧ pot t_choices_rows_n + lim0 ≤ pot o_t_choices_rows_n := by
  rcases hN with hN | hN
  · obtain ⟨kn, a, l, rm, nb, rfl, rfl, rfl, rfl, h⟩ := hN.view
    have l8 := h.len
    by_cases c1 : 0 ≤ v1.toInt ∧ v1.toInt ≤ 7
    · have ask := asked_y h.is c1
      obtain ⟨q1, q2, m, hm, rfl⟩ := mask_y c1
      by_cases c2 : 0 ≤ v2.toInt
      · obtain ⟨v, rfl, hv, -⟩ := int_nat c2
        have v31 : v < 2147483648 := by have := (nI v).toInt_lt; omega
        have v0 : (0 : Int32) ≤ nI v := Int32.le_iff_toInt_le.mpr c2
        have v0' : ¬ nI v < 0 := fun q => by have := (lt0_iff _).mp q; omega
        obtain ⟨lim0, rn, rw2, p1, p2, p3, p4⟩ := h.prep hO
        have n9 : (OL nb l rm m).length ≤ 40320 := by
          have := List.length_filter_le (fun x => soB (ceQ nb) x m) (ordL rm l)
          have := p2.1
          have := p2.2.1
          unfold OL
          omega
        obtain ⟨row2, left2, o2, fa2, fb2, fo2, se2, un2, g1, g2, g3⟩ := h.mKth hm v31 n9 m_row m_wide m_lost m_left m_mask m_mode m_wanted m_orders m_foundAt m_foundBy m_found m_seen m_unlikes
        rcases p2.find hm v31 with ⟨x1, p, x2, x3, x4⟩ | ⟨x1, x4⟩
        · have g4 := g3 x1
          have p4' := p2.1
          have p5' := p2.2.1
          obtain ⟨t1, t2, t3⟩ := h.ordM _ (getD_memL x2)
          have x1' : v < (OL nb l rm m).length := x1
          have x3' : (ordL rm l).getD p [] = (OL nb l rm m).getD v [] := x3
          rw [x3'] at t1 t2 t3
          have u8 := unl_le (x := l) (y := (OL nb l rm m).getD v []) l8
          obtain ⟨row3, w1, w2⟩ := bec_loop (mem := m_mem) (acted := nI a) (past := m_past) (fo := fo2) (lost := 0) (left := left2) (k0 := nI m) (k1 := 1) (k2 := nI v) (k3 := o2) (k4 := fa2) (k5 := fb2) (se := se2) (un := un2) l8 l.length FU 0 row2 (by omega) (FU_gt (by omega)) (fun p hp => absurd hp (by omega))
          have rr : RW row3 ((OL nb l rm m).getD v []) := fun p hp => by rw [w2 p (by omega)]; exact g4 p (by omega)
          have xx : fX7_become lim0 t_now_cells t_now_rows t_now_sizes t_now_rooms 1 (nI a) t_choices_rows_n t_choices_rows t_choices_size t_choices_ready t_choices_pool t_choices_plies t_choices_room (nI m) (nI v) = ob5 (fX7_relay t_now_rows t_now_sizes t_now_rooms (nI a) (pk ((OL nb l rm m).getD v []))) fun r19 w20 w21 w22 w23 => some (r19, w20, w21, w22, w23, rn, rw2, nI (ordL rm l).length, 1, pk (srt l), nI l.length, nI rm) := by
            rw [fX7_become, q1, if_neg (by decide), if_pos v0, p1, ob7_some, x4, Option.bind_some, if_neg (m1_ne (by omega)), p2.row x2, Option.bind_some, x3']
          have yy : fX8_become m_mem (nI a) m_past m_row m_wide m_lost m_left m_mask m_mode m_wanted m_orders m_foundAt m_foundBy m_found m_seen m_unlikes (nI m) (nI v) = fX8_become_56 m_mem (nI a) m_past row3 (nI l.length) 0 left2 (nI m) 1 (nI v) o2 fa2 fb2 fo2 se2 un2 := by
            rw [← lit_nI0] at w1
            rw [fX8_become, ask, Option.bind_some, if_neg (by decide), if_pos v0, g1, ob14_some, if_pos (show nI v < o2 by rw [g2]; exact (nI_lt' v31 (by omega)).mpr x1'), w1]
          rw [h.relayC t2 t1] at xx
          rw [fX8_become_56, mFarP h.R t2 t1 h.mt rr, Option.bind_some, mFull h.a30] at yy
          by_cases c : unl l ((OL nb l rm m).getD v []) = 0
          · rw [if_pos c, ob5_some] at xx
            rw [if_pos (show nI (unl l ((OL nb l rm m).getD v [])) = 0 by rw [c]; rfl)] at yy
            exact ⟨lim0, _, _, _, _, _, _, _, _, _, _, _, _, _, _, _, _, _, _, _, _, _, _, _, _, _, _, _, _, xx, yy, Or.inl hN, p3, p4⟩
          · rw [if_neg c] at xx
            rw [if_neg (show ¬ nI (unl l ((OL nb l rm m).getD v [])) = 0 from nI_ne (b := 0) c (by omega) (by omega))] at yy
            by_cases f : a < 30
            · obtain ⟨mem2, b1, b2⟩ := h.becM hN rfl f t2 t1 t3 rr
              rw [if_pos f, ob5_some] at xx
              rw [if_pos f, if_pos rfl, b1, ob4_some] at yy
              exact ⟨lim0, _, _, _, _, _, _, _, _, _, _, _, _, _, _, _, _, _, _, _, _, _, _, _, _, _, _, _, _, xx, yy, Or.inl b2, p3, p4⟩
            · rw [if_neg f, ob5_some] at xx
              rw [if_neg f, if_neg (by decide)] at yy
              exact ⟨lim0, _, _, _, _, _, _, _, _, _, _, _, _, _, _, _, _, _, _, _, _, _, _, _, _, _, _, _, _, xx, yy, Or.inl hN, p3, p4⟩
        · have x1' : ¬ v < (OL nb l rm m).length := x1
          exact ⟨lim0, -1, t_now_rows, t_now_sizes, t_now_rooms, nI a, rn, rw2, _, _, _, _, _, m_mem, nI a, m_past, row2, nI l.length, 0, left2, nI m, 1, nI v, o2, fa2, fb2, fo2, se2, un2, by rw [fX7_become, q1, if_neg (by decide), if_pos v0, p1, ob7_some, x4, Option.bind_some, if_pos rfl], by rw [fX8_become, ask, Option.bind_some, if_neg (by decide), if_pos v0, g1, ob14_some, if_neg (show ¬ nI v < o2 by rw [g2]; exact fun q => x1' ((nI_lt' v31 (by omega)).mp q))], Or.inl hN, p3, p4⟩
      · have v0 : ¬ (0 : Int32) ≤ v2 := fun q => c2 (Int32.le_iff_toInt_le.mp q)
        exact ⟨0, -2, t_now_rows, t_now_sizes, t_now_rooms, nI a, t_choices_rows_n, t_choices_rows, t_choices_size, t_choices_ready, t_choices_pool, t_choices_plies, t_choices_room, m_mem, nI a, m_past, m_row, m_wide, m_lost, m_left, m_mask, m_mode, m_wanted, m_orders, m_foundAt, m_foundBy, m_found, m_seen, m_unlikes, by rw [fX7_become, q1, if_neg (by decide), if_neg v0], by rw [fX8_become, ask, Option.bind_some, if_neg (by decide), if_neg v0], Or.inl hN, hO, by omega⟩
    · exact ⟨0, -2, t_now_rows, t_now_sizes, t_now_rooms, nI a, t_choices_rows_n, t_choices_rows, t_choices_size, t_choices_ready, t_choices_pool, t_choices_plies, t_choices_room, m_mem, nI a, m_past, m_row, m_wide, m_lost, m_left, m_mask, m_mode, m_wanted, m_orders, m_foundAt, m_foundBy, m_found, m_seen, m_unlikes, by rw [fX7_become, (mask_n c1).1, if_pos rfl], by rw [fX8_become, asked_n h.is c1, Option.bind_some, if_pos rfl], Or.inl hN, hO, by omega⟩
  · obtain ⟨rfl, h2, h3, h4, h5, h6, h7, h8, h9⟩ := id hN
    exact ⟨0, -2, t_now_rows, t_now_sizes, t_now_rooms, t_now_acts, t_choices_rows_n, t_choices_rows, t_choices_size, t_choices_ready, t_choices_pool, t_choices_plies, t_choices_room, m_mem, m_acted, m_past, m_row, m_wide, m_lost, m_left, m_mask, m_mode, m_wanted, m_orders, m_foundAt, m_foundBy, m_found, m_seen, m_unlikes, by rw [fX7_become, fX7_isMask, if_pos rfl, if_pos rfl], by rw [fX8_become, asked_0 (mIs0 (h9 3 (by omega))), Option.bind_some, if_pos rfl], Or.inr hN, hO, by omega⟩
set_option maxHeartbeats 1000000 in
set_option maxRecDepth 100000 in
theorem cs_keep (t_now_rows : Nat → Int32) (t_now_sizes : Nat → Int32) (t_now_rooms : Nat → Int32) (t_now_told : Int32) (t_now_acts : Int32) (m_mem : Nat → Int32) (m_acted : Int32) (m_past : Nat → Int32) (m_row : Nat → Int32) (m_wide : Int32) (m_lost : Int32) (t_now_numbers : Nat → Int32) (t_now_cells : Nat → Int32) (t_now_lines : Int32) (t_now_kinds : Int32) (v1 : Int32) (hN : PN t_now_numbers t_now_cells t_now_rows t_now_sizes t_now_rooms t_now_told t_now_lines t_now_kinds t_now_acts m_mem m_acted m_past) : ∃ (r : Int32) (o_t_now_rows : Nat → Int32) (o_t_now_sizes : Nat → Int32) (o_t_now_rooms : Nat → Int32) (o_t_now_acts : Int32) (o_m_mem : Nat → Int32) (o_m_acted : Int32) (o_m_past : Nat → Int32) (o_m_row : Nat → Int32) (o_m_wide : Int32) (o_m_lost : Int32), fX7_keep t_now_rows t_now_sizes t_now_rooms t_now_told t_now_acts v1 = some (r, o_t_now_rows, o_t_now_sizes, o_t_now_rooms, o_t_now_acts) ∧ fX8_keep m_mem m_acted m_past m_row m_wide m_lost v1 = some (r, o_m_mem, o_m_acted, o_m_past, o_m_row, o_m_wide, o_m_lost) ∧ PN t_now_numbers t_now_cells o_t_now_rows o_t_now_sizes o_t_now_rooms t_now_told t_now_lines t_now_kinds o_t_now_acts o_m_mem o_m_acted o_m_past := by
  rcases hN with hN | hN
  · obtain ⟨kn, a, l, rm, nb, rfl, rfl, rfl, rfl, h⟩ := hN.view
    have l8 := h.len
    have ha := h.a30
    have b9 := pow9 _ (hi_bit h.R)
    by_cases c1 : 1 ≤ v1.toInt ∧ v1.toInt ≤ (2 ^ l.length - 1 : Nat)
    · obtain ⟨g, rfl, hg, -⟩ := int_nat (x := v1) (by omega)
      have g8 : g < 2 ^ l.length := by omega
      by_cases c2 : g = 2 ^ l.length - 1
      · exact ⟨-5, _, _, _, _, _, _, _, m_row, m_wide, m_lost, by rw [fX7_keep, h.cset, Option.bind_some, if_pos c1, if_neg (by decide), h.all, Option.bind_some, if_eq_y c2], by rw [fX8_keep, h.is, Option.bind_some, if_neg (by decide), h.mall, Option.bind_some, mInSet (by omega), if_pos c1, if_neg (by decide), Option.bind_some, if_eq_y c2], Or.inl hN⟩
      · by_cases f : a < 30
        · obtain ⟨mem2, row', wide', e1, e2, e3, e4⟩ := h.stay hN rfl f g8 m_row m_wide m_lost
          refine ⟨nI l.length - nI (pop g), _, _, _, _, _, _, _, row', wide', 0, ?_, ?_, Or.inl e4⟩
          · rw [fX7_keep, h.cset, Option.bind_some, if_pos c1, if_neg (by decide), h.all, Option.bind_some, if_eq_n c2 (by omega) (by omega), cFull ha, if_pos f, if_pos rfl, h.plies, Option.bind_some, e1, ob4_some, cPlies (by omega), upd_same, Option.bind_some]
          · rw [fX8_keep, h.is, Option.bind_some, if_neg (by decide), h.mall, Option.bind_some, mInSet (by omega), if_pos c1, if_neg (by decide), Option.bind_some, if_eq_n c2 (by omega) (by omega), mFull ha, if_pos f, if_pos rfl, e2, ob6_some, e3, h.m2]
        · exact ⟨-5, _, _, _, _, _, _, _, m_row, m_wide, m_lost, by rw [fX7_keep, h.cset, Option.bind_some, if_pos c1, if_neg (by decide), h.all, Option.bind_some, if_eq_n c2 (by omega) (by omega), cFull ha, if_neg f, if_neg (by decide)], by rw [fX8_keep, h.is, Option.bind_some, if_neg (by decide), h.mall, Option.bind_some, mInSet (by omega), if_pos c1, if_neg (by decide), Option.bind_some, if_eq_n c2 (by omega) (by omega), mFull ha, if_neg f, if_neg (by decide)], Or.inl hN⟩
    · exact ⟨-2, _, _, _, _, _, _, _, m_row, m_wide, m_lost, by rw [fX7_keep, h.cset, Option.bind_some, if_neg c1, if_pos rfl], by rw [fX8_keep, h.is, Option.bind_some, if_neg (by decide), h.mall, Option.bind_some, mInSet (by omega), if_neg c1, if_pos rfl], Or.inl hN⟩
  · obtain ⟨rfl, h2, h3, h4, h5, h6, h7, h8, h9⟩ := id hN
    exact ⟨-2, t_now_rows, t_now_sizes, t_now_rooms, t_now_acts, m_mem, m_acted, m_past, m_row, m_wide, m_lost, by simp only [fX7_keep, fX7_isSet, Option.bind_some, if_true], by simp only [fX8_keep, mIs0 (h9 3 (by omega)), Option.bind_some, if_true], Or.inr hN⟩
set_option maxHeartbeats 1000000 in
set_option maxRecDepth 100000 in
theorem cs_room (t_now_rows : Nat → Int32) (t_now_sizes : Nat → Int32) (t_now_rooms : Nat → Int32) (t_now_told : Int32) (t_now_acts : Int32) (m_mem : Nat → Int32) (m_acted : Int32) (m_past : Nat → Int32) (t_now_numbers : Nat → Int32) (t_now_cells : Nat → Int32) (t_now_lines : Int32) (t_now_kinds : Int32) (v1 : Int32) (hN : PN t_now_numbers t_now_cells t_now_rows t_now_sizes t_now_rooms t_now_told t_now_lines t_now_kinds t_now_acts m_mem m_acted m_past) : ∃ (r : Int32) (o_t_now_rows : Nat → Int32) (o_t_now_sizes : Nat → Int32) (o_t_now_rooms : Nat → Int32) (o_t_now_acts : Int32) (o_m_mem : Nat → Int32) (o_m_acted : Int32) (o_m_past : Nat → Int32), fX7_room t_now_rows t_now_sizes t_now_rooms t_now_told t_now_acts v1 = some (r, o_t_now_rows, o_t_now_sizes, o_t_now_rooms, o_t_now_acts) ∧ fX8_room m_mem m_acted m_past v1 = some (r, o_m_mem, o_m_acted, o_m_past) ∧ PN t_now_numbers t_now_cells o_t_now_rows o_t_now_sizes o_t_now_rooms t_now_told t_now_lines t_now_kinds o_t_now_acts o_m_mem o_m_acted o_m_past := by
  rcases hN with hN | hN
  · obtain ⟨kn, a, ln, rfl, rfl, rfl, rfl, ha, hlines, hln1, hln2, hPl, hpast, hs⟩ := id hN
    obtain ⟨l, rm, hl8, hlt, hrm1, hrm8, hrow, hsize, hroom, m0, m1, m2, m3, mk, mt⟩ := id hs
    have hk3 := hPl.1
    have hin : fX8_in v1.toInt64 1 8 = if 1 ≤ v1.toInt ∧ v1.toInt ≤ 8 then 1 else 0 := in_spec v1 1 8
    by_cases c : 1 ≤ v1.toInt ∧ v1.toInt ≤ 8
    · obtain ⟨k, rfl, hk, -⟩ := int_nat (x := v1) (by omega)
      have d1 : ¬ nI k < 1 := fun q => absurd ((lt_nI (n := 1) (by omega)).mp q) (by omega)
      have d2 : nI k ≤ 8 := (nI_le_r (n := 8) (by omega)).mpr (by omega)
      by_cases e : k = rm
      · subst e
        exact ⟨-5, t_now_rows, t_now_sizes, t_now_rooms, nI a, m_mem, nI a, m_past, by simp only [fX7_room, e10, if_false, if_neg d1, if_pos d2, cRoom ha, hroom, Option.bind_some, if_true], by simp only [fX8_room, mIs (m3.trans hlines) hln1 hln2, Option.bind_some, e10, if_false, hin, if_pos c, m0, if_true], Or.inl hN⟩
      · have e1 := nI_ne e (by omega) (by omega)
        have e2 := nI_ne (fun q => e q.symm) (show rm < 2147483648 by omega) (show k < 2147483648 by omega)
        by_cases f : a < 30
        · refine ⟨0, _, _, _, _, _, _, _, by simp only [fX7_room, e10, if_false, if_neg d1, if_pos d2, cRoom ha, hroom, Option.bind_some, if_neg e1, cFull ha, if_pos f, if_true, cRow ha, cPlies ha, cAct f, ob4_some]; rfl, by simp only [fX8_room, mIs (m3.trans hlines) hln1 hln2, Option.bind_some, e10, if_false, hin, if_pos c, m0, if_neg e2, mFull ha, if_pos f, if_true, mKeeps f, ob2_some]; rfl, Or.inl (PNt.act f hlines hln1 hln2 hPl hpast hs ?_)⟩
          refine ⟨l, k, hl8, hlt, by omega, by omega, hrow, hsize, rfl, upd_same _ _ _, ?_, ?_, ?_, fun q hq => ?_, fun p hp => ?_⟩
          · rw [upd_ne _ _ (by omega)]; exact m1
          · rw [upd_ne _ _ (by omega)]; exact m2
          · rw [upd_ne _ _ (by omega)]; exact m3
          · rw [upd_ne _ _ (by omega)]; exact mk q hq
          · rw [upd_ne _ _ (by omega)]; exact mt p hp
        · exact ⟨-5, t_now_rows, t_now_sizes, t_now_rooms, nI a, m_mem, nI a, m_past, by simp only [fX7_room, e10, if_false, if_neg d1, if_pos d2, cRoom ha, hroom, Option.bind_some, if_neg e1, cFull ha, if_neg f], by simp only [fX8_room, mIs (m3.trans hlines) hln1 hln2, Option.bind_some, e10, if_false, hin, if_pos c, m0, if_neg e2, mFull ha, if_neg f], Or.inl hN⟩
    · by_cases c1 : v1.toInt < 1
      · have d1 : v1 < 1 := (lt_nI (n := 1) (by omega)).mpr c1
        exact ⟨-2, t_now_rows, t_now_sizes, t_now_rooms, nI a, m_mem, nI a, m_past, by simp only [fX7_room, e10, if_false, if_pos d1], by simp only [fX8_room, mIs (m3.trans hlines) hln1 hln2, Option.bind_some, e10, if_false, hin, if_neg c, if_true], Or.inl hN⟩
      · have d1 : ¬ v1 < 1 := fun q => c1 ((lt_nI (n := 1) (by omega)).mp q)
        have d2 : ¬ v1 ≤ 8 := fun q => absurd ((nI_le_r (n := 8) (by omega)).mp q) (by omega)
        exact ⟨-2, t_now_rows, t_now_sizes, t_now_rooms, nI a, m_mem, nI a, m_past, by simp only [fX7_room, e10, if_false, if_neg d1, if_neg d2], by simp only [fX8_room, mIs (m3.trans hlines) hln1 hln2, Option.bind_some, e10, if_false, hin, if_neg c, if_true], Or.inl hN⟩
  · obtain ⟨rfl, h2, h3, h4, h5, h6, h7, h8, h9⟩ := id hN
    exact ⟨-2, t_now_rows, t_now_sizes, t_now_rooms, t_now_acts, m_mem, m_acted, m_past, by simp only [fX7_room, if_true], by simp only [fX8_room, mIs0 (h9 3 (by omega)), Option.bind_some, if_true], Or.inr hN⟩
set_option maxHeartbeats 1000000 in
set_option maxRecDepth 100000 in
theorem cs_whirl (t_now_rows : Nat → Int32) (t_now_sizes : Nat → Int32) (t_now_rooms : Nat → Int32) (t_now_told : Int32) (t_now_acts : Int32) (m_mem : Nat → Int32) (m_acted : Int32) (m_past : Nat → Int32) (t_now_numbers : Nat → Int32) (t_now_cells : Nat → Int32) (t_now_lines : Int32) (t_now_kinds : Int32) (v1 : Int32) (hN : PN t_now_numbers t_now_cells t_now_rows t_now_sizes t_now_rooms t_now_told t_now_lines t_now_kinds t_now_acts m_mem m_acted m_past) : ∃ (r : Int32) (o_t_now_rows : Nat → Int32) (o_t_now_sizes : Nat → Int32) (o_t_now_rooms : Nat → Int32) (o_t_now_acts : Int32) (o_m_mem : Nat → Int32) (o_m_acted : Int32) (o_m_past : Nat → Int32), fX7_whirl t_now_rows t_now_sizes t_now_rooms t_now_told t_now_acts v1 = some (r, o_t_now_rows, o_t_now_sizes, o_t_now_rooms, o_t_now_acts) ∧ fX8_whirl m_mem m_acted m_past v1 = some (r, o_m_mem, o_m_acted, o_m_past) ∧ PN t_now_numbers t_now_cells o_t_now_rows o_t_now_sizes o_t_now_rooms t_now_told t_now_lines t_now_kinds o_t_now_acts o_m_mem o_m_acted o_m_past := by
  rcases hN with hN | hN
  · obtain ⟨kn, a, l, rm, nb, rfl, rfl, rfl, rfl, h⟩ := hN.view
    have l8 := h.len
    have ha := h.a30
    by_cases c1 : 1 ≤ v1.toInt ∧ v1.toInt ≤ 3
    · obtain ⟨v, rfl, hv, -⟩ := int_nat (x := v1) (by omega)
      have q1 : (nI v < 1) = False := eq_false (fun q => by have := (lt_nI (n := 1) (by omega)).mp q; omega)
      have q3 : (nI v ≤ 3) = True := eq_true ((le3_iff _).mpr c1.2)
      by_cases c2 : l.length = 0
      · have q0 : nI l.length = 0 := by rw [c2]; rfl
        exact ⟨-5, t_now_rows, t_now_sizes, t_now_rooms, nI a, m_mem, nI a, m_past, by simp only [fX7_whirl, e10, if_false, q1, q3, if_true, h.plies, Option.bind_some, if_pos q0], by simp only [fX8_whirl, h.is, Option.bind_some, e10, if_false, mIn13, if_pos c1, h.m2, if_pos q0], Or.inl hN⟩
      · have q0 : ¬ nI l.length = 0 := nI_ne (b := 0) c2 (by omega) (by omega)
        by_cases f : a < 30
        · obtain ⟨mem2, e1, e2, e3⟩ := whM_loop h.R (v := v) (by omega) (acted := nI (a + 1)) (past := kp m_mem m_past a 0) l.length FU 0 m_mem (by omega) (FU_gt (by omega)) h.m2 (fun p hp => by rw [if_neg (by omega)]; exact h.mt p hp)
          have z1 : fX7_whirl t_now_rows t_now_sizes t_now_rooms 1 (nI a) (nI v) = some (nI l.length, upd t_now_rows (a + 1) (pk (l.map (wh v))), upd t_now_sizes (a + 1) (nI l.length), upd t_now_rooms (a + 1) (nI rm), nI (a + 1)) := by simp only [fX7_whirl, e10, if_false, q1, q3, if_true, h.plies, Option.bind_some, if_neg q0, cFull ha, if_pos f, h.row, h.room, whC h.R (show v < 4 by omega), cAct f, ob4_some]
          have z2 : fX8_whirl m_mem (nI a) m_past (nI v) = fX8_whirl_47 FU m_mem (nI (a + 1)) (kp m_mem m_past a 0) (nI v) 0 := by
            rw [fX8_whirl, h.is, Option.bind_some, if_neg (by decide), mIn13, if_pos c1, if_neg (by decide), h.m2, if_neg q0, mFull ha, if_pos f, if_pos rfl, mKeeps f, ob2_some]
          have z3 : fX8_whirl_47 FU m_mem (nI (a + 1)) (kp m_mem m_past a 0) (nI v) 0 = fX8_whirl_47 FU m_mem (nI (a + 1)) (kp m_mem m_past a 0) (nI v) (nI 0) := congrArg _ lit_nI0
          refine ⟨nI l.length, _, _, _, _, mem2, _, _, z1, (z2.trans z3).trans e1, Or.inl ?_⟩
          have hlen : (l.map (wh v)).length = l.length := List.length_map _
          rw [← hlen]
          exact hN.act2 h rfl f (by omega) (fun t ht => by
            obtain ⟨x, hx, rfl⟩ := List.mem_map.mp ht
            exact wh_lt (h.lt x hx)) (fun k h1 _ => e2 k h1) (by rw [e2 2 (by omega), hlen]; exact h.m2) (fun p hp => by rw [hlen] at hp; rw [e3 p hp, getD_map hp])
        · exact ⟨-5, t_now_rows, t_now_sizes, t_now_rooms, nI a, m_mem, nI a, m_past, by simp only [fX7_whirl, e10, if_false, q1, q3, if_true, h.plies, Option.bind_some, if_neg q0, cFull ha, if_neg f], by simp only [fX8_whirl, h.is, Option.bind_some, e10, if_false, mIn13, if_pos c1, h.m2, if_neg q0, mFull ha, if_neg f], Or.inl hN⟩
    · refine ⟨-2, t_now_rows, t_now_sizes, t_now_rooms, nI a, m_mem, nI a, m_past, ?_, by simp only [fX8_whirl, h.is, Option.bind_some, e10, if_false, mIn13, if_neg c1, if_true], Or.inl hN⟩
      simp only [fX7_whirl, e10, if_false]
      exact out13 c1
  · obtain ⟨rfl, h2, h3, h4, h5, h6, h7, h8, h9⟩ := id hN
    exact ⟨-2, t_now_rows, t_now_sizes, t_now_rooms, t_now_acts, m_mem, m_acted, m_past, by simp only [fX7_whirl, if_true], by simp only [fX8_whirl, mIs0 (h9 3 (by omega)), Option.bind_some, if_true], Or.inr hN⟩
set_option maxHeartbeats 1000000 in
set_option maxRecDepth 100000 in
theorem cs_upset (t_now_rows : Nat → Int32) (t_now_sizes : Nat → Int32) (t_now_rooms : Nat → Int32) (t_now_told : Int32) (t_now_acts : Int32) (m_mem : Nat → Int32) (m_acted : Int32) (m_past : Nat → Int32) (m_row : Nat → Int32) (m_wide : Int32) (m_lost : Int32) (t_now_numbers : Nat → Int32) (t_now_cells : Nat → Int32) (t_now_lines : Int32) (t_now_kinds : Int32)  (hN : PN t_now_numbers t_now_cells t_now_rows t_now_sizes t_now_rooms t_now_told t_now_lines t_now_kinds t_now_acts m_mem m_acted m_past) : ∃ (r : Int32) (o_t_now_rows : Nat → Int32) (o_t_now_sizes : Nat → Int32) (o_t_now_rooms : Nat → Int32) (o_t_now_acts : Int32) (o_m_mem : Nat → Int32) (o_m_acted : Int32) (o_m_past : Nat → Int32) (o_m_row : Nat → Int32) (o_m_wide : Int32) (o_m_lost : Int32), fX7_upset t_now_rows t_now_sizes t_now_rooms t_now_told t_now_acts = some (r, o_t_now_rows, o_t_now_sizes, o_t_now_rooms, o_t_now_acts) ∧ fX8_upset m_mem m_acted m_past m_row m_wide m_lost = some (r, o_m_mem, o_m_acted, o_m_past, o_m_row, o_m_wide, o_m_lost) ∧ PN t_now_numbers t_now_cells o_t_now_rows o_t_now_sizes o_t_now_rooms t_now_told t_now_lines t_now_kinds o_t_now_acts o_m_mem o_m_acted o_m_past := by
  rcases hN with hN | hN
  · obtain ⟨kn, a, l, rm, nb, rfl, rfl, rfl, rfl, h⟩ := hN.view
    have l8 := h.len
    have ha := h.a30
    have hR2 := ovL_R h.R
    have hl2 := ovL_len l
    obtain ⟨row0, e0, -⟩ := h.lays m_row m_wide m_lost
    obtain ⟨row', e1, e2⟩ := h.ups_loop (acted := nI a) (past := m_past) l.length FU 0 row0 (by omega) (FU_gt (by omega)) (fun p hp => absurd hp (by omega))
    have x1 : fX7_upset t_now_rows t_now_sizes t_now_rooms 1 (nI a) = fX7_relay t_now_rows t_now_sizes t_now_rooms (nI a) (pk (ovL l)) := by
      rw [fX7_upset, if_neg (by decide), h.row, Option.bind_some, h.plies, Option.bind_some, cOver h.R, Option.bind_some]
      cases fX7_relay t_now_rows t_now_sizes t_now_rooms (nI a) (pk (ovL l)) <;> rfl
    have y1 : fX8_upset m_mem (nI a) m_past m_row m_wide m_lost = fX8_upset_41 m_mem (nI a) m_past row' (nI l.length) 0 := by
      rw [fX8_upset, h.is, Option.bind_some, if_neg (by decide), e0, ob3_some]
      exact e1
    have hu : unl l (ovL l) ≤ 8 := by
      unfold unl
      have := List.length_filter_le (fun q : Nat × Nat => q.1 != q.2) (l.zip (ovL l))
      rw [List.length_zip] at this
      omega
    rw [h.relayC hR2 hl2] at x1
    rw [fX8_upset_41, mFarP h.R hR2 hl2 h.mt e2, Option.bind_some, lit_nI0, mFull ha] at y1
    by_cases c : unl l (ovL l) = 0
    · rw [if_pos c] at x1
      rw [if_eq_y c] at y1
      exact ⟨_, _, _, _, _, _, _, _, _, _, _, x1, y1, Or.inl hN⟩
    · rw [if_neg c] at x1
      rw [if_eq_n c (by omega) (by omega)] at y1
      by_cases f : a < 30
      · obtain ⟨mem2, d1, d2⟩ := h.becM hN rfl f hR2 hl2 (ovL_lt h.lt) e2
        rw [if_pos f] at x1
        rw [if_pos f, if_pos (show (0 : Int32) = nI 0 from rfl), d1, ob4_some] at y1
        exact ⟨_, _, _, _, _, _, _, _, _, _, _, x1, y1, Or.inl d2⟩
      · rw [if_neg f] at x1
        rw [if_neg f, if_neg (by decide)] at y1
        exact ⟨_, _, _, _, _, _, _, _, _, _, _, x1, y1, Or.inl hN⟩
  · obtain ⟨rfl, h2, h3, h4, h5, h6, h7, h8, h9⟩ := id hN
    exact ⟨-2, t_now_rows, t_now_sizes, t_now_rooms, t_now_acts, m_mem, m_acted, m_past, m_row, m_wide, m_lost, by simp only [fX7_upset, if_true], by simp only [fX8_upset, mIs0 (h9 3 (by omega)), Option.bind_some, if_true], Or.inr hN⟩
set_option maxHeartbeats 1000000 in
set_option maxRecDepth 100000 in
theorem cs_turned (t_now_rows : Nat → Int32) (t_now_sizes : Nat → Int32) (t_now_told : Int32) (t_now_acts : Int32) (t_images_0_rows : Nat → Int32) (t_images_0_sizes : Nat → Int32) (t_images_0_told : Int32) (t_images_0_acts : Int32) (t_images_1_rows : Nat → Int32) (t_images_1_sizes : Nat → Int32) (t_images_1_told : Int32) (t_images_1_acts : Int32) (t_images_2_rows : Nat → Int32) (t_images_2_sizes : Nat → Int32) (t_images_2_told : Int32) (t_images_2_acts : Int32) (m_mem : Nat → Int32) (m_images : Nat → Int32) (m_hasImage : Nat → Int32) (t_now_numbers : Nat → Int32) (t_now_cells : Nat → Int32) (t_now_rooms : Nat → Int32) (t_now_lines : Int32) (t_now_kinds : Int32) (m_acted : Int32) (m_past : Nat → Int32) (t_images_0_numbers : Nat → Int32) (t_images_0_cells : Nat → Int32) (t_images_0_rooms : Nat → Int32) (t_images_0_lines : Int32) (t_images_0_kinds : Int32) (m_imageActed : Nat → Int32) (m_imagePast : Nat → Int32) (t_images_1_numbers : Nat → Int32) (t_images_1_cells : Nat → Int32) (t_images_1_rooms : Nat → Int32) (t_images_1_lines : Int32) (t_images_1_kinds : Int32) (t_images_2_numbers : Nat → Int32) (t_images_2_cells : Nat → Int32) (t_images_2_rooms : Nat → Int32) (t_images_2_lines : Int32) (t_images_2_kinds : Int32) (v1 : Int32) (hN : PN t_now_numbers t_now_cells t_now_rows t_now_sizes t_now_rooms t_now_told t_now_lines t_now_kinds t_now_acts m_mem m_acted m_past) (hI0 : PI 0 t_images_0_numbers t_images_0_cells t_images_0_rows t_images_0_sizes t_images_0_rooms t_images_0_told t_images_0_lines t_images_0_kinds t_images_0_acts m_images m_imageActed m_imagePast m_hasImage) (hI1 : PI 1 t_images_1_numbers t_images_1_cells t_images_1_rows t_images_1_sizes t_images_1_rooms t_images_1_told t_images_1_lines t_images_1_kinds t_images_1_acts m_images m_imageActed m_imagePast m_hasImage) (hI2 : PI 2 t_images_2_numbers t_images_2_cells t_images_2_rows t_images_2_sizes t_images_2_rooms t_images_2_told t_images_2_lines t_images_2_kinds t_images_2_acts m_images m_imageActed m_imagePast m_hasImage) : ∃ (r : Int32), fX7_turned t_now_rows t_now_sizes t_now_told t_now_acts t_images_0_rows t_images_0_sizes t_images_0_told t_images_0_acts t_images_1_rows t_images_1_sizes t_images_1_told t_images_1_acts t_images_2_rows t_images_2_sizes t_images_2_told t_images_2_acts v1 = some r ∧ fX8_turned m_mem m_images m_hasImage v1 = some r := by
  rcases hN with hN | hN
  · obtain ⟨kn, a, l, rm, nb, rfl, rfl, rfl, rfl, h⟩ := hN.view
    have l8 := h.len
    by_cases c1 : 0 ≤ v1.toInt ∧ v1.toInt ≤ 2
    · obtain ⟨i, hi, rfl⟩ := isImg_yes c1
      have hi' : i = 0 ∨ i = 1 ∨ i = 2 := by omega
      rcases hi' with rfl | rfl | rfl
      · rcases hI0.view with ⟨rfl, s2⟩ | ⟨rfl, s2, kn2, a2, l2, rm2, nb2, ha2, -, rfl, y2, h2⟩
        · exact ⟨-6, by simp only [fX7_turned, zz00, zz01, zz02, zz10, zz11, zz12, zz20, zz21, zz22, ic0, ic1, ic2, e10, e60, if_false, if_true, Option.bind_some], by rw [fX8_turned, h.is, Option.bind_some, if_neg (by decide), mIsImg (by omega), if_neg (by decide), chkN (by omega) (by omega), nI_clamp' (by omega), s2, if_pos rfl]⟩
        · have l82 := h2.len
          by_cases c : l2.length = l.length
          · have e := mTur_loop h h2 (by omega) c.symm 8 FU 0 (by omega) (FU_gt (by omega))
            have d := cTur_loop h h2.R c.symm (r0 := t_images_0_rows) (r1 := t_images_1_rows) (r2 := t_images_2_rows) (a0 := nI a2) (a1 := t_images_1_acts) (a2 := t_images_2_acts) (v1 := nI 0) (fun k73 v2 v3 v4 z => by simp only [fX7_turned_98, zz00, zz01, zz02, zz10, zz11, zz12, zz20, zz21, zz22, ic0, ic1, ic2, if_true, if_false, h2.row, Option.bind_some]) 8 FU 0 (by omega) (FU_gt (by omega))
            exact ⟨rI (twF l l2 8 0), by simp only [fX7_turned, zz00, zz01, zz02, zz10, zz11, zz12, zz20, zz21, zz22, ic0, ic1, ic2, e10, e60, if_false, if_true, Option.bind_some, h.plies, h2.plies, if_eq_y c, h.row, cOver h.R]; rw [lit_nI0]; exact d, by rw [fX8_turned, h.is, Option.bind_some, if_neg (by decide), mIsImg (by omega), if_neg (by decide), chkN (by omega) (by omega), nI_clamp' (by omega), s2, if_neg (by decide), lit_nI0]; exact e⟩
          · have e := mTur_no h h2 (by omega) c 8 FU 0 (by omega) (FU_gt (by omega))
            exact ⟨-1, by simp only [fX7_turned, zz00, zz01, zz02, zz10, zz11, zz12, zz20, zz21, zz22, ic0, ic1, ic2, e10, e60, if_false, if_true, Option.bind_some, h.plies, h2.plies, if_eq_n c (show l2.length < 2147483648 by omega) (show l.length < 2147483648 by omega)], by rw [fX8_turned, h.is, Option.bind_some, if_neg (by decide), mIsImg (by omega), if_neg (by decide), chkN (by omega) (by omega), nI_clamp' (by omega), s2, if_neg (by decide), lit_nI0]; exact e⟩
      · rcases hI1.view with ⟨rfl, s2⟩ | ⟨rfl, s2, kn2, a2, l2, rm2, nb2, ha2, -, rfl, y2, h2⟩
        · exact ⟨-6, by simp only [fX7_turned, zz00, zz01, zz02, zz10, zz11, zz12, zz20, zz21, zz22, ic0, ic1, ic2, e10, e60, if_false, if_true, Option.bind_some], by rw [fX8_turned, h.is, Option.bind_some, if_neg (by decide), mIsImg (by omega), if_neg (by decide), chkN (by omega) (by omega), nI_clamp' (by omega), s2, if_pos rfl]⟩
        · have l82 := h2.len
          by_cases c : l2.length = l.length
          · have e := mTur_loop h h2 (by omega) c.symm 8 FU 0 (by omega) (FU_gt (by omega))
            have d := cTur_loop h h2.R c.symm (r0 := t_images_0_rows) (r1 := t_images_1_rows) (r2 := t_images_2_rows) (a0 := t_images_0_acts) (a1 := nI a2) (a2 := t_images_2_acts) (v1 := nI 1) (fun k73 v2 v3 v4 z => by simp only [fX7_turned_98, zz00, zz01, zz02, zz10, zz11, zz12, zz20, zz21, zz22, ic0, ic1, ic2, if_true, if_false, h2.row, Option.bind_some]) 8 FU 0 (by omega) (FU_gt (by omega))
            exact ⟨rI (twF l l2 8 0), by simp only [fX7_turned, zz00, zz01, zz02, zz10, zz11, zz12, zz20, zz21, zz22, ic0, ic1, ic2, e10, e60, if_false, if_true, Option.bind_some, h.plies, h2.plies, if_eq_y c, h.row, cOver h.R]; rw [lit_nI0]; exact d, by rw [fX8_turned, h.is, Option.bind_some, if_neg (by decide), mIsImg (by omega), if_neg (by decide), chkN (by omega) (by omega), nI_clamp' (by omega), s2, if_neg (by decide), lit_nI0]; exact e⟩
          · have e := mTur_no h h2 (by omega) c 8 FU 0 (by omega) (FU_gt (by omega))
            exact ⟨-1, by simp only [fX7_turned, zz00, zz01, zz02, zz10, zz11, zz12, zz20, zz21, zz22, ic0, ic1, ic2, e10, e60, if_false, if_true, Option.bind_some, h.plies, h2.plies, if_eq_n c (show l2.length < 2147483648 by omega) (show l.length < 2147483648 by omega)], by rw [fX8_turned, h.is, Option.bind_some, if_neg (by decide), mIsImg (by omega), if_neg (by decide), chkN (by omega) (by omega), nI_clamp' (by omega), s2, if_neg (by decide), lit_nI0]; exact e⟩
      · rcases hI2.view with ⟨rfl, s2⟩ | ⟨rfl, s2, kn2, a2, l2, rm2, nb2, ha2, -, rfl, y2, h2⟩
        · exact ⟨-6, by simp only [fX7_turned, zz00, zz01, zz02, zz10, zz11, zz12, zz20, zz21, zz22, ic0, ic1, ic2, e10, e60, if_false, if_true, Option.bind_some], by rw [fX8_turned, h.is, Option.bind_some, if_neg (by decide), mIsImg (by omega), if_neg (by decide), chkN (by omega) (by omega), nI_clamp' (by omega), s2, if_pos rfl]⟩
        · have l82 := h2.len
          by_cases c : l2.length = l.length
          · have e := mTur_loop h h2 (by omega) c.symm 8 FU 0 (by omega) (FU_gt (by omega))
            have d := cTur_loop h h2.R c.symm (r0 := t_images_0_rows) (r1 := t_images_1_rows) (r2 := t_images_2_rows) (a0 := t_images_0_acts) (a1 := t_images_1_acts) (a2 := nI a2) (v1 := nI 2) (fun k73 v2 v3 v4 z => by simp only [fX7_turned_98, zz00, zz01, zz02, zz10, zz11, zz12, zz20, zz21, zz22, ic0, ic1, ic2, if_true, if_false, h2.row, Option.bind_some]) 8 FU 0 (by omega) (FU_gt (by omega))
            exact ⟨rI (twF l l2 8 0), by simp only [fX7_turned, zz00, zz01, zz02, zz10, zz11, zz12, zz20, zz21, zz22, ic0, ic1, ic2, e10, e60, if_false, if_true, Option.bind_some, h.plies, h2.plies, if_eq_y c, h.row, cOver h.R]; rw [lit_nI0]; exact d, by rw [fX8_turned, h.is, Option.bind_some, if_neg (by decide), mIsImg (by omega), if_neg (by decide), chkN (by omega) (by omega), nI_clamp' (by omega), s2, if_neg (by decide), lit_nI0]; exact e⟩
          · have e := mTur_no h h2 (by omega) c 8 FU 0 (by omega) (FU_gt (by omega))
            exact ⟨-1, by simp only [fX7_turned, zz00, zz01, zz02, zz10, zz11, zz12, zz20, zz21, zz22, ic0, ic1, ic2, e10, e60, if_false, if_true, Option.bind_some, h.plies, h2.plies, if_eq_n c (show l2.length < 2147483648 by omega) (show l.length < 2147483648 by omega)], by rw [fX8_turned, h.is, Option.bind_some, if_neg (by decide), mIsImg (by omega), if_neg (by decide), chkN (by omega) (by omega), nI_clamp' (by omega), s2, if_neg (by decide), lit_nI0]; exact e⟩
    · exact ⟨-2, by rw [fX7_turned, if_neg (by decide), (isImg_no c1).1, Option.bind_some, if_pos rfl], by rw [fX8_turned, h.is, Option.bind_some, if_neg (by decide), (isImg_no c1).2, if_pos rfl]⟩
  · obtain ⟨rfl, h2, h3, h4, h5, h6, h7, h8, h9⟩ := id hN
    exact ⟨-2, by simp only [fX7_turned, if_true], by simp only [fX8_turned, mIs0 (h9 3 (by omega)), Option.bind_some, if_true]⟩
set_option maxHeartbeats 1000000 in
set_option maxRecDepth 100000 in
theorem cs_image (t_now_numbers : Nat → Int32) (t_now_cells : Nat → Int32) (t_now_rows : Nat → Int32) (t_now_sizes : Nat → Int32) (t_now_rooms : Nat → Int32) (t_now_told : Int32) (t_now_lines : Int32) (t_now_kinds : Int32) (t_now_acts : Int32) (t_images_0_numbers : Nat → Int32) (t_images_0_cells : Nat → Int32) (t_images_0_rows : Nat → Int32) (t_images_0_sizes : Nat → Int32) (t_images_0_rooms : Nat → Int32) (t_images_0_told : Int32) (t_images_0_lines : Int32) (t_images_0_kinds : Int32) (t_images_0_acts : Int32) (t_images_1_numbers : Nat → Int32) (t_images_1_cells : Nat → Int32) (t_images_1_rows : Nat → Int32) (t_images_1_sizes : Nat → Int32) (t_images_1_rooms : Nat → Int32) (t_images_1_told : Int32) (t_images_1_lines : Int32) (t_images_1_kinds : Int32) (t_images_1_acts : Int32) (t_images_2_numbers : Nat → Int32) (t_images_2_cells : Nat → Int32) (t_images_2_rows : Nat → Int32) (t_images_2_sizes : Nat → Int32) (t_images_2_rooms : Nat → Int32) (t_images_2_told : Int32) (t_images_2_lines : Int32) (t_images_2_kinds : Int32) (t_images_2_acts : Int32) (m_mem : Nat → Int32) (m_acted : Int32) (m_past : Nat → Int32) (m_images : Nat → Int32) (m_imageActed : Nat → Int32) (m_imagePast : Nat → Int32) (m_hasImage : Nat → Int32) (v1 : Int32) (hN : PN t_now_numbers t_now_cells t_now_rows t_now_sizes t_now_rooms t_now_told t_now_lines t_now_kinds t_now_acts m_mem m_acted m_past) (hI0 : PI 0 t_images_0_numbers t_images_0_cells t_images_0_rows t_images_0_sizes t_images_0_rooms t_images_0_told t_images_0_lines t_images_0_kinds t_images_0_acts m_images m_imageActed m_imagePast m_hasImage) (hI1 : PI 1 t_images_1_numbers t_images_1_cells t_images_1_rows t_images_1_sizes t_images_1_rooms t_images_1_told t_images_1_lines t_images_1_kinds t_images_1_acts m_images m_imageActed m_imagePast m_hasImage) (hI2 : PI 2 t_images_2_numbers t_images_2_cells t_images_2_rows t_images_2_sizes t_images_2_rooms t_images_2_told t_images_2_lines t_images_2_kinds t_images_2_acts m_images m_imageActed m_imagePast m_hasImage) : ∃ (r : Int32) (o_t_images_0_numbers : Nat → Int32) (o_t_images_0_cells : Nat → Int32) (o_t_images_0_rows : Nat → Int32) (o_t_images_0_sizes : Nat → Int32) (o_t_images_0_rooms : Nat → Int32) (o_t_images_0_told : Int32) (o_t_images_0_lines : Int32) (o_t_images_0_kinds : Int32) (o_t_images_0_acts : Int32) (o_t_images_1_numbers : Nat → Int32) (o_t_images_1_cells : Nat → Int32) (o_t_images_1_rows : Nat → Int32) (o_t_images_1_sizes : Nat → Int32) (o_t_images_1_rooms : Nat → Int32) (o_t_images_1_told : Int32) (o_t_images_1_lines : Int32) (o_t_images_1_kinds : Int32) (o_t_images_1_acts : Int32) (o_t_images_2_numbers : Nat → Int32) (o_t_images_2_cells : Nat → Int32) (o_t_images_2_rows : Nat → Int32) (o_t_images_2_sizes : Nat → Int32) (o_t_images_2_rooms : Nat → Int32) (o_t_images_2_told : Int32) (o_t_images_2_lines : Int32) (o_t_images_2_kinds : Int32) (o_t_images_2_acts : Int32) (o_m_images : Nat → Int32) (o_m_imageActed : Nat → Int32) (o_m_imagePast : Nat → Int32) (o_m_hasImage : Nat → Int32), fX7_image t_now_numbers t_now_cells t_now_rows t_now_sizes t_now_rooms t_now_told t_now_lines t_now_kinds t_now_acts t_images_0_numbers t_images_0_cells t_images_0_rows t_images_0_sizes t_images_0_rooms t_images_0_told t_images_0_lines t_images_0_kinds t_images_0_acts t_images_1_numbers t_images_1_cells t_images_1_rows t_images_1_sizes t_images_1_rooms t_images_1_told t_images_1_lines t_images_1_kinds t_images_1_acts t_images_2_numbers t_images_2_cells t_images_2_rows t_images_2_sizes t_images_2_rooms t_images_2_told t_images_2_lines t_images_2_kinds t_images_2_acts v1 = some (r, o_t_images_0_numbers, o_t_images_0_cells, o_t_images_0_rows, o_t_images_0_sizes, o_t_images_0_rooms, o_t_images_0_told, o_t_images_0_lines, o_t_images_0_kinds, o_t_images_0_acts, o_t_images_1_numbers, o_t_images_1_cells, o_t_images_1_rows, o_t_images_1_sizes, o_t_images_1_rooms, o_t_images_1_told, o_t_images_1_lines, o_t_images_1_kinds, o_t_images_1_acts, o_t_images_2_numbers, o_t_images_2_cells, o_t_images_2_rows, o_t_images_2_sizes, o_t_images_2_rooms, o_t_images_2_told, o_t_images_2_lines, o_t_images_2_kinds, o_t_images_2_acts) ∧ fX8_image m_mem m_acted m_past m_images m_imageActed m_imagePast m_hasImage v1 = some (r, o_m_images, o_m_imageActed, o_m_imagePast, o_m_hasImage) ∧ PI 0 o_t_images_0_numbers o_t_images_0_cells o_t_images_0_rows o_t_images_0_sizes o_t_images_0_rooms o_t_images_0_told o_t_images_0_lines o_t_images_0_kinds o_t_images_0_acts o_m_images o_m_imageActed o_m_imagePast o_m_hasImage ∧ PI 1 o_t_images_1_numbers o_t_images_1_cells o_t_images_1_rows o_t_images_1_sizes o_t_images_1_rooms o_t_images_1_told o_t_images_1_lines o_t_images_1_kinds o_t_images_1_acts o_m_images o_m_imageActed o_m_imagePast o_m_hasImage ∧ PI 2 o_t_images_2_numbers o_t_images_2_cells o_t_images_2_rows o_t_images_2_sizes o_t_images_2_rooms o_t_images_2_told o_t_images_2_lines o_t_images_2_kinds o_t_images_2_acts o_m_images o_m_imageActed o_m_imagePast o_m_hasImage := by
  rcases hN with hN | hN
  · obtain ⟨kn, a, l, rm, nb, rfl, rfl, rfl, rfl, h⟩ := hN.view
    by_cases c1 : 0 ≤ v1.toInt ∧ v1.toInt ≤ 2
    · obtain ⟨i, hi, rfl⟩ := isImg_yes c1
      have y := mImage (past := m_past) (im := m_images) (iA := m_imageActed) (iP := m_imagePast) (hI := m_hasImage) hi h.a30 h.is
      have hi' : i = 0 ∨ i = 1 ∨ i = 2 := by omega
      rcases hi' with rfl | rfl | rfl
      · exact ⟨0, t_now_numbers, t_now_cells, t_now_rows, t_now_sizes, t_now_rooms, 1, t_now_lines, nI kn, nI a, t_images_1_numbers, t_images_1_cells, t_images_1_rows, t_images_1_sizes, t_images_1_rooms, t_images_1_told, t_images_1_lines, t_images_1_kinds, t_images_1_acts, t_images_2_numbers, t_images_2_cells, t_images_2_rows, t_images_2_sizes, t_images_2_rooms, t_images_2_told, t_images_2_lines, t_images_2_kinds, t_images_2_acts, _, _, _, _, by simp only [fX7_image, zz00, zz01, zz02, zz10, zz11, zz12, zz20, zz21, zz22, ic0, ic1, ic2, Option.bind_some, e10, if_false, if_true, fX1_copy, zb1, ob9_some], y, PI.same hN h.a30, hI1.other (by omega) h.a30, hI2.other (by omega) h.a30⟩
      · exact ⟨0, t_images_0_numbers, t_images_0_cells, t_images_0_rows, t_images_0_sizes, t_images_0_rooms, t_images_0_told, t_images_0_lines, t_images_0_kinds, t_images_0_acts, t_now_numbers, t_now_cells, t_now_rows, t_now_sizes, t_now_rooms, 1, t_now_lines, nI kn, nI a, t_images_2_numbers, t_images_2_cells, t_images_2_rows, t_images_2_sizes, t_images_2_rooms, t_images_2_told, t_images_2_lines, t_images_2_kinds, t_images_2_acts, _, _, _, _, by simp only [fX7_image, zz00, zz01, zz02, zz10, zz11, zz12, zz20, zz21, zz22, ic0, ic1, ic2, Option.bind_some, e10, if_false, if_true, fX1_copy, zb1, ob9_some], y, hI0.other (by omega) h.a30, PI.same hN h.a30, hI2.other (by omega) h.a30⟩
      · exact ⟨0, t_images_0_numbers, t_images_0_cells, t_images_0_rows, t_images_0_sizes, t_images_0_rooms, t_images_0_told, t_images_0_lines, t_images_0_kinds, t_images_0_acts, t_images_1_numbers, t_images_1_cells, t_images_1_rows, t_images_1_sizes, t_images_1_rooms, t_images_1_told, t_images_1_lines, t_images_1_kinds, t_images_1_acts, t_now_numbers, t_now_cells, t_now_rows, t_now_sizes, t_now_rooms, 1, t_now_lines, nI kn, nI a, _, _, _, _, by simp only [fX7_image, zz00, zz01, zz02, zz10, zz11, zz12, zz20, zz21, zz22, ic0, ic1, ic2, Option.bind_some, e10, if_false, if_true, fX1_copy, zb1, ob9_some], y, hI0.other (by omega) h.a30, hI1.other (by omega) h.a30, PI.same hN h.a30⟩
    · exact ⟨-2, t_images_0_numbers, t_images_0_cells, t_images_0_rows, t_images_0_sizes, t_images_0_rooms, t_images_0_told, t_images_0_lines, t_images_0_kinds, t_images_0_acts, t_images_1_numbers, t_images_1_cells, t_images_1_rows, t_images_1_sizes, t_images_1_rooms, t_images_1_told, t_images_1_lines, t_images_1_kinds, t_images_1_acts, t_images_2_numbers, t_images_2_cells, t_images_2_rows, t_images_2_sizes, t_images_2_rooms, t_images_2_told, t_images_2_lines, t_images_2_kinds, t_images_2_acts, m_images, m_imageActed, m_imagePast, m_hasImage, by rw [fX7_image, if_neg (by decide), (isImg_no c1).1, Option.bind_some, if_pos rfl], by rw [fX8_image, h.is, Option.bind_some, if_neg (by decide), (isImg_no c1).2, if_pos rfl], hI0, hI1, hI2⟩
  · obtain ⟨rfl, h2, h3, h4, h5, h6, h7, h8, h9⟩ := id hN
    exact ⟨-2, t_images_0_numbers, t_images_0_cells, t_images_0_rows, t_images_0_sizes, t_images_0_rooms, t_images_0_told, t_images_0_lines, t_images_0_kinds, t_images_0_acts, t_images_1_numbers, t_images_1_cells, t_images_1_rows, t_images_1_sizes, t_images_1_rooms, t_images_1_told, t_images_1_lines, t_images_1_kinds, t_images_1_acts, t_images_2_numbers, t_images_2_cells, t_images_2_rows, t_images_2_sizes, t_images_2_rooms, t_images_2_told, t_images_2_lines, t_images_2_kinds, t_images_2_acts, m_images, m_imageActed, m_imagePast, m_hasImage, by rw [fX7_image, if_pos rfl], by rw [fX8_image, mIs0 (h9 3 (by omega)), Option.bind_some, if_pos rfl], hI0, hI1, hI2⟩
set_option maxHeartbeats 1000000 in
set_option maxRecDepth 100000 in
theorem cs_back (t_now_numbers : Nat → Int32) (t_now_cells : Nat → Int32) (t_now_rows : Nat → Int32) (t_now_sizes : Nat → Int32) (t_now_rooms : Nat → Int32) (t_now_told : Int32) (t_now_lines : Int32) (t_now_kinds : Int32) (t_now_acts : Int32) (t_images_0_numbers : Nat → Int32) (t_images_0_cells : Nat → Int32) (t_images_0_rows : Nat → Int32) (t_images_0_sizes : Nat → Int32) (t_images_0_rooms : Nat → Int32) (t_images_0_told : Int32) (t_images_0_lines : Int32) (t_images_0_kinds : Int32) (t_images_0_acts : Int32) (t_images_1_numbers : Nat → Int32) (t_images_1_cells : Nat → Int32) (t_images_1_rows : Nat → Int32) (t_images_1_sizes : Nat → Int32) (t_images_1_rooms : Nat → Int32) (t_images_1_told : Int32) (t_images_1_lines : Int32) (t_images_1_kinds : Int32) (t_images_1_acts : Int32) (t_images_2_numbers : Nat → Int32) (t_images_2_cells : Nat → Int32) (t_images_2_rows : Nat → Int32) (t_images_2_sizes : Nat → Int32) (t_images_2_rooms : Nat → Int32) (t_images_2_told : Int32) (t_images_2_lines : Int32) (t_images_2_kinds : Int32) (t_images_2_acts : Int32) (t_choices_ready : Int32) (m_mem : Nat → Int32) (m_acted : Int32) (m_past : Nat → Int32) (m_images : Nat → Int32) (m_imageActed : Nat → Int32) (m_imagePast : Nat → Int32) (m_hasImage : Nat → Int32) (t_choices_rows_n : Nat) (t_choices_rows : Nat → Int64) (t_choices_size : Int32) (t_choices_pool : Int32) (t_choices_plies : Int32) (t_choices_room : Int32) (v1 : Int32) (hN : PN t_now_numbers t_now_cells t_now_rows t_now_sizes t_now_rooms t_now_told t_now_lines t_now_kinds t_now_acts m_mem m_acted m_past) (hO : PO t_now_cells t_choices_rows_n t_choices_rows t_choices_size t_choices_ready t_choices_pool t_choices_plies t_choices_room) (hI0 : PI 0 t_images_0_numbers t_images_0_cells t_images_0_rows t_images_0_sizes t_images_0_rooms t_images_0_told t_images_0_lines t_images_0_kinds t_images_0_acts m_images m_imageActed m_imagePast m_hasImage) (hI1 : PI 1 t_images_1_numbers t_images_1_cells t_images_1_rows t_images_1_sizes t_images_1_rooms t_images_1_told t_images_1_lines t_images_1_kinds t_images_1_acts m_images m_imageActed m_imagePast m_hasImage) (hI2 : PI 2 t_images_2_numbers t_images_2_cells t_images_2_rows t_images_2_sizes t_images_2_rooms t_images_2_told t_images_2_lines t_images_2_kinds t_images_2_acts m_images m_imageActed m_imagePast m_hasImage) : ∃ (r : Int32) (o_t_now_numbers : Nat → Int32) (o_t_now_cells : Nat → Int32) (o_t_now_rows : Nat → Int32) (o_t_now_sizes : Nat → Int32) (o_t_now_rooms : Nat → Int32) (o_t_now_told : Int32) (o_t_now_lines : Int32) (o_t_now_kinds : Int32) (o_t_now_acts : Int32) (o_t_choices_ready : Int32) (o_m_mem : Nat → Int32) (o_m_acted : Int32) (o_m_past : Nat → Int32), fX7_back t_now_numbers t_now_cells t_now_rows t_now_sizes t_now_rooms t_now_told t_now_lines t_now_kinds t_now_acts t_images_0_numbers t_images_0_cells t_images_0_rows t_images_0_sizes t_images_0_rooms t_images_0_told t_images_0_lines t_images_0_kinds t_images_0_acts t_images_1_numbers t_images_1_cells t_images_1_rows t_images_1_sizes t_images_1_rooms t_images_1_told t_images_1_lines t_images_1_kinds t_images_1_acts t_images_2_numbers t_images_2_cells t_images_2_rows t_images_2_sizes t_images_2_rooms t_images_2_told t_images_2_lines t_images_2_kinds t_images_2_acts t_choices_ready v1 = some (r, o_t_now_numbers, o_t_now_cells, o_t_now_rows, o_t_now_sizes, o_t_now_rooms, o_t_now_told, o_t_now_lines, o_t_now_kinds, o_t_now_acts, o_t_choices_ready) ∧ fX8_back m_mem m_acted m_past m_images m_imageActed m_imagePast m_hasImage v1 = some (r, o_m_mem, o_m_acted, o_m_past) ∧ PN o_t_now_numbers o_t_now_cells o_t_now_rows o_t_now_sizes o_t_now_rooms o_t_now_told o_t_now_lines o_t_now_kinds o_t_now_acts o_m_mem o_m_acted o_m_past ∧ PO o_t_now_cells t_choices_rows_n t_choices_rows t_choices_size o_t_choices_ready t_choices_pool t_choices_plies t_choices_room := by
  by_cases c1 : 0 ≤ v1.toInt ∧ v1.toInt ≤ 2
  · obtain ⟨i, hi, rfl⟩ := isImg_yes c1
    have hi' : i = 0 ∨ i = 1 ∨ i = 2 := by omega
    rcases hi' with rfl | rfl | rfl
    · rcases hI0 with ⟨rfl, s1⟩ | ⟨s1, hP⟩
      · exact ⟨-6, t_now_numbers, t_now_cells, t_now_rows, t_now_sizes, t_now_rooms, t_now_told, t_now_lines, t_now_kinds, t_now_acts, t_choices_ready, m_mem, m_acted, m_past, by simp only [fX7_back, zz00, zz01, zz02, zz10, zz11, zz12, zz20, zz21, zz22, ic0, ic1, ic2, Option.bind_some, e10, if_false, if_true], by rw [fX8_back, mIsImg hi, if_neg (by decide), chkN hi (by omega), nI_clamp' (by omega), s1, if_pos rfl], hN, hO⟩
      · obtain ⟨kn, a, l, rm, nb, e1, -, -, e4, h⟩ := hP.view
        subst e1
        refine ⟨0, t_images_0_numbers, t_images_0_cells, t_images_0_rows, t_images_0_sizes, t_images_0_rooms, 1, t_images_0_lines, t_images_0_kinds, t_images_0_acts, 0, gb m_mem m_images 0 0, nI a, bp m_past m_imagePast 0 a 0, by simp only [fX7_back, zz00, zz01, zz02, zz10, zz11, zz12, zz20, zz21, zz22, ic0, ic1, ic2, e10, if_false, if_true, fX1_copy, zb1, ob9_some, fX0_forget, Option.bind_some], mBackI hi h.a30 s1 e4, Or.inl (hP.congr e4.symm (fun q hq => ?_) (fun a2 e5 h30 q hq => ?_)), hO.1, Or.inl rfl⟩
        · unfold gb
          rw [if_pos (by omega)]
        · have ha := h.a30
          have : a = a2 := (nI_inj (by omega) (by omega)).mp (e4.symm.trans e5)
          unfold bp
          rw [if_pos (by omega)]
    · rcases hI1 with ⟨rfl, s1⟩ | ⟨s1, hP⟩
      · exact ⟨-6, t_now_numbers, t_now_cells, t_now_rows, t_now_sizes, t_now_rooms, t_now_told, t_now_lines, t_now_kinds, t_now_acts, t_choices_ready, m_mem, m_acted, m_past, by simp only [fX7_back, zz00, zz01, zz02, zz10, zz11, zz12, zz20, zz21, zz22, ic0, ic1, ic2, Option.bind_some, e10, if_false, if_true], by rw [fX8_back, mIsImg hi, if_neg (by decide), chkN hi (by omega), nI_clamp' (by omega), s1, if_pos rfl], hN, hO⟩
      · obtain ⟨kn, a, l, rm, nb, e1, -, -, e4, h⟩ := hP.view
        subst e1
        refine ⟨0, t_images_1_numbers, t_images_1_cells, t_images_1_rows, t_images_1_sizes, t_images_1_rooms, 1, t_images_1_lines, t_images_1_kinds, t_images_1_acts, 0, gb m_mem m_images 1 0, nI a, bp m_past m_imagePast 1 a 0, by simp only [fX7_back, zz00, zz01, zz02, zz10, zz11, zz12, zz20, zz21, zz22, ic0, ic1, ic2, e10, if_false, if_true, fX1_copy, zb1, ob9_some, fX0_forget, Option.bind_some], mBackI hi h.a30 s1 e4, Or.inl (hP.congr e4.symm (fun q hq => ?_) (fun a2 e5 h30 q hq => ?_)), hO.1, Or.inl rfl⟩
        · unfold gb
          rw [if_pos (by omega)]
        · have ha := h.a30
          have : a = a2 := (nI_inj (by omega) (by omega)).mp (e4.symm.trans e5)
          unfold bp
          rw [if_pos (by omega)]
    · rcases hI2 with ⟨rfl, s1⟩ | ⟨s1, hP⟩
      · exact ⟨-6, t_now_numbers, t_now_cells, t_now_rows, t_now_sizes, t_now_rooms, t_now_told, t_now_lines, t_now_kinds, t_now_acts, t_choices_ready, m_mem, m_acted, m_past, by simp only [fX7_back, zz00, zz01, zz02, zz10, zz11, zz12, zz20, zz21, zz22, ic0, ic1, ic2, Option.bind_some, e10, if_false, if_true], by rw [fX8_back, mIsImg hi, if_neg (by decide), chkN hi (by omega), nI_clamp' (by omega), s1, if_pos rfl], hN, hO⟩
      · obtain ⟨kn, a, l, rm, nb, e1, -, -, e4, h⟩ := hP.view
        subst e1
        refine ⟨0, t_images_2_numbers, t_images_2_cells, t_images_2_rows, t_images_2_sizes, t_images_2_rooms, 1, t_images_2_lines, t_images_2_kinds, t_images_2_acts, 0, gb m_mem m_images 2 0, nI a, bp m_past m_imagePast 2 a 0, by simp only [fX7_back, zz00, zz01, zz02, zz10, zz11, zz12, zz20, zz21, zz22, ic0, ic1, ic2, e10, if_false, if_true, fX1_copy, zb1, ob9_some, fX0_forget, Option.bind_some], mBackI hi h.a30 s1 e4, Or.inl (hP.congr e4.symm (fun q hq => ?_) (fun a2 e5 h30 q hq => ?_)), hO.1, Or.inl rfl⟩
        · unfold gb
          rw [if_pos (by omega)]
        · have ha := h.a30
          have : a = a2 := (nI_inj (by omega) (by omega)).mp (e4.symm.trans e5)
          unfold bp
          rw [if_pos (by omega)]
  · exact ⟨-2, t_now_numbers, t_now_cells, t_now_rows, t_now_sizes, t_now_rooms, t_now_told, t_now_lines, t_now_kinds, t_now_acts, t_choices_ready, m_mem, m_acted, m_past, by rw [fX7_back, (isImg_no c1).1, Option.bind_some, if_pos rfl], by rw [fX8_back, (isImg_no c1).2, if_pos rfl], hN, hO⟩
set_option maxHeartbeats 1000000 in
set_option maxRecDepth 100000 in
theorem cs_alike (t_images_0_rows : Nat → Int32) (t_images_0_sizes : Nat → Int32) (t_images_0_told : Int32) (t_images_0_acts : Int32) (t_images_1_rows : Nat → Int32) (t_images_1_sizes : Nat → Int32) (t_images_1_told : Int32) (t_images_1_acts : Int32) (t_images_2_rows : Nat → Int32) (t_images_2_sizes : Nat → Int32) (t_images_2_told : Int32) (t_images_2_acts : Int32) (m_images : Nat → Int32) (m_hasImage : Nat → Int32) (t_images_0_numbers : Nat → Int32) (t_images_0_cells : Nat → Int32) (t_images_0_rooms : Nat → Int32) (t_images_0_lines : Int32) (t_images_0_kinds : Int32) (m_imageActed : Nat → Int32) (m_imagePast : Nat → Int32) (t_images_1_numbers : Nat → Int32) (t_images_1_cells : Nat → Int32) (t_images_1_rooms : Nat → Int32) (t_images_1_lines : Int32) (t_images_1_kinds : Int32) (t_images_2_numbers : Nat → Int32) (t_images_2_cells : Nat → Int32) (t_images_2_rooms : Nat → Int32) (t_images_2_lines : Int32) (t_images_2_kinds : Int32) (v1 : Int32) (v2 : Int32) (hI0 : PI 0 t_images_0_numbers t_images_0_cells t_images_0_rows t_images_0_sizes t_images_0_rooms t_images_0_told t_images_0_lines t_images_0_kinds t_images_0_acts m_images m_imageActed m_imagePast m_hasImage) (hI1 : PI 1 t_images_1_numbers t_images_1_cells t_images_1_rows t_images_1_sizes t_images_1_rooms t_images_1_told t_images_1_lines t_images_1_kinds t_images_1_acts m_images m_imageActed m_imagePast m_hasImage) (hI2 : PI 2 t_images_2_numbers t_images_2_cells t_images_2_rows t_images_2_sizes t_images_2_rooms t_images_2_told t_images_2_lines t_images_2_kinds t_images_2_acts m_images m_imageActed m_imagePast m_hasImage) : ∃ (r : Int32), fX7_alike t_images_0_rows t_images_0_sizes t_images_0_told t_images_0_acts t_images_1_rows t_images_1_sizes t_images_1_told t_images_1_acts t_images_2_rows t_images_2_sizes t_images_2_told t_images_2_acts v1 v2 = some r ∧ fX8_alike m_images m_hasImage v1 v2 = some r := by
  by_cases c1 : (0 ≤ v1.toInt ∧ v1.toInt ≤ 2) ∧ (0 ≤ v2.toInt ∧ v2.toInt ≤ 2)
  · obtain ⟨i, hi, rfl⟩ := isImg_yes c1.1
    obtain ⟨j, hj, rfl⟩ := isImg_yes c1.2
    have hi' : i = 0 ∨ i = 1 ∨ i = 2 := by omega
    have hj' : j = 0 ∨ j = 1 ∨ j = 2 := by omega
    rcases hi' with rfl | rfl | rfl <;> rcases hj' with rfl | rfl | rfl
    · rcases hI0.view with ⟨rfl, s1⟩ | ⟨rfl, s1, kn, a, l, rm, nb, ha, -, rfl, y1, h⟩
      · exact ⟨-6, by simp only [fX7_alike, fX7_imagesBar, zz00, zz01, zz02, zz10, zz11, zz12, zz20, zz21, zz22, ic0, ic1, ic2, e10, e60, if_false, if_true, Option.bind_some], by rw [fX8_alike, mWhy (by omega) (by omega), s1, if_pos rfl, Option.bind_some, if_neg (by decide)]⟩
      · have s2 := s1
        have h2 := h
        have e := alike_loop h h2 (by omega) (by omega) 12 FU 0 (by omega) (FU_gt (by omega))
        exact ⟨b32 (sameL l l 12 0), by simp only [fX7_alike, fX7_imagesBar, zz00, zz01, zz02, zz10, zz11, zz12, zz20, zz21, zz22, ic0, ic1, ic2, e10, e60, if_false, if_true, Option.bind_some, sameC h h2, b32_if], by rw [fX8_alike, mWhy (by omega) (by omega), s1, if_neg (by decide), if_neg (by decide), Option.bind_some, if_pos (by decide), lit_nI0]; exact e⟩
    · rcases hI0.view with ⟨rfl, s1⟩ | ⟨rfl, s1, kn, a, l, rm, nb, ha, -, rfl, y1, h⟩
      · exact ⟨-6, by simp only [fX7_alike, fX7_imagesBar, zz00, zz01, zz02, zz10, zz11, zz12, zz20, zz21, zz22, ic0, ic1, ic2, e10, e60, if_false, if_true, Option.bind_some], by rw [fX8_alike, mWhy (by omega) (by omega), s1, if_pos rfl, Option.bind_some, if_neg (by decide)]⟩
      · rcases hI1.view with ⟨rfl, s2⟩ | ⟨rfl, s2, kn2, a2, l2, rm2, nb2, ha2, -, rfl, y2, h2⟩
        · exact ⟨-6, by simp only [fX7_alike, fX7_imagesBar, zz00, zz01, zz02, zz10, zz11, zz12, zz20, zz21, zz22, ic0, ic1, ic2, e10, e60, if_false, if_true, Option.bind_some], by rw [fX8_alike, mWhy (by omega) (by omega), s1, if_neg (by decide), s2, if_pos rfl, Option.bind_some, if_neg (by decide)]⟩
        · have e := alike_loop h h2 (by omega) (by omega) 12 FU 0 (by omega) (FU_gt (by omega))
          exact ⟨b32 (sameL l l2 12 0), by simp only [fX7_alike, fX7_imagesBar, zz00, zz01, zz02, zz10, zz11, zz12, zz20, zz21, zz22, ic0, ic1, ic2, e10, e60, if_false, if_true, Option.bind_some, sameC h h2, b32_if], by rw [fX8_alike, mWhy (by omega) (by omega), s1, if_neg (by decide), s2, if_neg (by decide), Option.bind_some, if_pos (by decide), lit_nI0]; exact e⟩
    · rcases hI0.view with ⟨rfl, s1⟩ | ⟨rfl, s1, kn, a, l, rm, nb, ha, -, rfl, y1, h⟩
      · exact ⟨-6, by simp only [fX7_alike, fX7_imagesBar, zz00, zz01, zz02, zz10, zz11, zz12, zz20, zz21, zz22, ic0, ic1, ic2, e10, e60, if_false, if_true, Option.bind_some], by rw [fX8_alike, mWhy (by omega) (by omega), s1, if_pos rfl, Option.bind_some, if_neg (by decide)]⟩
      · rcases hI2.view with ⟨rfl, s2⟩ | ⟨rfl, s2, kn2, a2, l2, rm2, nb2, ha2, -, rfl, y2, h2⟩
        · exact ⟨-6, by simp only [fX7_alike, fX7_imagesBar, zz00, zz01, zz02, zz10, zz11, zz12, zz20, zz21, zz22, ic0, ic1, ic2, e10, e60, if_false, if_true, Option.bind_some], by rw [fX8_alike, mWhy (by omega) (by omega), s1, if_neg (by decide), s2, if_pos rfl, Option.bind_some, if_neg (by decide)]⟩
        · have e := alike_loop h h2 (by omega) (by omega) 12 FU 0 (by omega) (FU_gt (by omega))
          exact ⟨b32 (sameL l l2 12 0), by simp only [fX7_alike, fX7_imagesBar, zz00, zz01, zz02, zz10, zz11, zz12, zz20, zz21, zz22, ic0, ic1, ic2, e10, e60, if_false, if_true, Option.bind_some, sameC h h2, b32_if], by rw [fX8_alike, mWhy (by omega) (by omega), s1, if_neg (by decide), s2, if_neg (by decide), Option.bind_some, if_pos (by decide), lit_nI0]; exact e⟩
    · rcases hI1.view with ⟨rfl, s1⟩ | ⟨rfl, s1, kn, a, l, rm, nb, ha, -, rfl, y1, h⟩
      · exact ⟨-6, by simp only [fX7_alike, fX7_imagesBar, zz00, zz01, zz02, zz10, zz11, zz12, zz20, zz21, zz22, ic0, ic1, ic2, e10, e60, if_false, if_true, Option.bind_some], by rw [fX8_alike, mWhy (by omega) (by omega), s1, if_pos rfl, Option.bind_some, if_neg (by decide)]⟩
      · rcases hI0.view with ⟨rfl, s2⟩ | ⟨rfl, s2, kn2, a2, l2, rm2, nb2, ha2, -, rfl, y2, h2⟩
        · exact ⟨-6, by simp only [fX7_alike, fX7_imagesBar, zz00, zz01, zz02, zz10, zz11, zz12, zz20, zz21, zz22, ic0, ic1, ic2, e10, e60, if_false, if_true, Option.bind_some], by rw [fX8_alike, mWhy (by omega) (by omega), s1, if_neg (by decide), s2, if_pos rfl, Option.bind_some, if_neg (by decide)]⟩
        · have e := alike_loop h h2 (by omega) (by omega) 12 FU 0 (by omega) (FU_gt (by omega))
          exact ⟨b32 (sameL l l2 12 0), by simp only [fX7_alike, fX7_imagesBar, zz00, zz01, zz02, zz10, zz11, zz12, zz20, zz21, zz22, ic0, ic1, ic2, e10, e60, if_false, if_true, Option.bind_some, sameC h h2, b32_if], by rw [fX8_alike, mWhy (by omega) (by omega), s1, if_neg (by decide), s2, if_neg (by decide), Option.bind_some, if_pos (by decide), lit_nI0]; exact e⟩
    · rcases hI1.view with ⟨rfl, s1⟩ | ⟨rfl, s1, kn, a, l, rm, nb, ha, -, rfl, y1, h⟩
      · exact ⟨-6, by simp only [fX7_alike, fX7_imagesBar, zz00, zz01, zz02, zz10, zz11, zz12, zz20, zz21, zz22, ic0, ic1, ic2, e10, e60, if_false, if_true, Option.bind_some], by rw [fX8_alike, mWhy (by omega) (by omega), s1, if_pos rfl, Option.bind_some, if_neg (by decide)]⟩
      · have s2 := s1
        have h2 := h
        have e := alike_loop h h2 (by omega) (by omega) 12 FU 0 (by omega) (FU_gt (by omega))
        exact ⟨b32 (sameL l l 12 0), by simp only [fX7_alike, fX7_imagesBar, zz00, zz01, zz02, zz10, zz11, zz12, zz20, zz21, zz22, ic0, ic1, ic2, e10, e60, if_false, if_true, Option.bind_some, sameC h h2, b32_if], by rw [fX8_alike, mWhy (by omega) (by omega), s1, if_neg (by decide), if_neg (by decide), Option.bind_some, if_pos (by decide), lit_nI0]; exact e⟩
    · rcases hI1.view with ⟨rfl, s1⟩ | ⟨rfl, s1, kn, a, l, rm, nb, ha, -, rfl, y1, h⟩
      · exact ⟨-6, by simp only [fX7_alike, fX7_imagesBar, zz00, zz01, zz02, zz10, zz11, zz12, zz20, zz21, zz22, ic0, ic1, ic2, e10, e60, if_false, if_true, Option.bind_some], by rw [fX8_alike, mWhy (by omega) (by omega), s1, if_pos rfl, Option.bind_some, if_neg (by decide)]⟩
      · rcases hI2.view with ⟨rfl, s2⟩ | ⟨rfl, s2, kn2, a2, l2, rm2, nb2, ha2, -, rfl, y2, h2⟩
        · exact ⟨-6, by simp only [fX7_alike, fX7_imagesBar, zz00, zz01, zz02, zz10, zz11, zz12, zz20, zz21, zz22, ic0, ic1, ic2, e10, e60, if_false, if_true, Option.bind_some], by rw [fX8_alike, mWhy (by omega) (by omega), s1, if_neg (by decide), s2, if_pos rfl, Option.bind_some, if_neg (by decide)]⟩
        · have e := alike_loop h h2 (by omega) (by omega) 12 FU 0 (by omega) (FU_gt (by omega))
          exact ⟨b32 (sameL l l2 12 0), by simp only [fX7_alike, fX7_imagesBar, zz00, zz01, zz02, zz10, zz11, zz12, zz20, zz21, zz22, ic0, ic1, ic2, e10, e60, if_false, if_true, Option.bind_some, sameC h h2, b32_if], by rw [fX8_alike, mWhy (by omega) (by omega), s1, if_neg (by decide), s2, if_neg (by decide), Option.bind_some, if_pos (by decide), lit_nI0]; exact e⟩
    · rcases hI2.view with ⟨rfl, s1⟩ | ⟨rfl, s1, kn, a, l, rm, nb, ha, -, rfl, y1, h⟩
      · exact ⟨-6, by simp only [fX7_alike, fX7_imagesBar, zz00, zz01, zz02, zz10, zz11, zz12, zz20, zz21, zz22, ic0, ic1, ic2, e10, e60, if_false, if_true, Option.bind_some], by rw [fX8_alike, mWhy (by omega) (by omega), s1, if_pos rfl, Option.bind_some, if_neg (by decide)]⟩
      · rcases hI0.view with ⟨rfl, s2⟩ | ⟨rfl, s2, kn2, a2, l2, rm2, nb2, ha2, -, rfl, y2, h2⟩
        · exact ⟨-6, by simp only [fX7_alike, fX7_imagesBar, zz00, zz01, zz02, zz10, zz11, zz12, zz20, zz21, zz22, ic0, ic1, ic2, e10, e60, if_false, if_true, Option.bind_some], by rw [fX8_alike, mWhy (by omega) (by omega), s1, if_neg (by decide), s2, if_pos rfl, Option.bind_some, if_neg (by decide)]⟩
        · have e := alike_loop h h2 (by omega) (by omega) 12 FU 0 (by omega) (FU_gt (by omega))
          exact ⟨b32 (sameL l l2 12 0), by simp only [fX7_alike, fX7_imagesBar, zz00, zz01, zz02, zz10, zz11, zz12, zz20, zz21, zz22, ic0, ic1, ic2, e10, e60, if_false, if_true, Option.bind_some, sameC h h2, b32_if], by rw [fX8_alike, mWhy (by omega) (by omega), s1, if_neg (by decide), s2, if_neg (by decide), Option.bind_some, if_pos (by decide), lit_nI0]; exact e⟩
    · rcases hI2.view with ⟨rfl, s1⟩ | ⟨rfl, s1, kn, a, l, rm, nb, ha, -, rfl, y1, h⟩
      · exact ⟨-6, by simp only [fX7_alike, fX7_imagesBar, zz00, zz01, zz02, zz10, zz11, zz12, zz20, zz21, zz22, ic0, ic1, ic2, e10, e60, if_false, if_true, Option.bind_some], by rw [fX8_alike, mWhy (by omega) (by omega), s1, if_pos rfl, Option.bind_some, if_neg (by decide)]⟩
      · rcases hI1.view with ⟨rfl, s2⟩ | ⟨rfl, s2, kn2, a2, l2, rm2, nb2, ha2, -, rfl, y2, h2⟩
        · exact ⟨-6, by simp only [fX7_alike, fX7_imagesBar, zz00, zz01, zz02, zz10, zz11, zz12, zz20, zz21, zz22, ic0, ic1, ic2, e10, e60, if_false, if_true, Option.bind_some], by rw [fX8_alike, mWhy (by omega) (by omega), s1, if_neg (by decide), s2, if_pos rfl, Option.bind_some, if_neg (by decide)]⟩
        · have e := alike_loop h h2 (by omega) (by omega) 12 FU 0 (by omega) (FU_gt (by omega))
          exact ⟨b32 (sameL l l2 12 0), by simp only [fX7_alike, fX7_imagesBar, zz00, zz01, zz02, zz10, zz11, zz12, zz20, zz21, zz22, ic0, ic1, ic2, e10, e60, if_false, if_true, Option.bind_some, sameC h h2, b32_if], by rw [fX8_alike, mWhy (by omega) (by omega), s1, if_neg (by decide), s2, if_neg (by decide), Option.bind_some, if_pos (by decide), lit_nI0]; exact e⟩
    · rcases hI2.view with ⟨rfl, s1⟩ | ⟨rfl, s1, kn, a, l, rm, nb, ha, -, rfl, y1, h⟩
      · exact ⟨-6, by simp only [fX7_alike, fX7_imagesBar, zz00, zz01, zz02, zz10, zz11, zz12, zz20, zz21, zz22, ic0, ic1, ic2, e10, e60, if_false, if_true, Option.bind_some], by rw [fX8_alike, mWhy (by omega) (by omega), s1, if_pos rfl, Option.bind_some, if_neg (by decide)]⟩
      · have s2 := s1
        have h2 := h
        have e := alike_loop h h2 (by omega) (by omega) 12 FU 0 (by omega) (FU_gt (by omega))
        exact ⟨b32 (sameL l l 12 0), by simp only [fX7_alike, fX7_imagesBar, zz00, zz01, zz02, zz10, zz11, zz12, zz20, zz21, zz22, ic0, ic1, ic2, e10, e60, if_false, if_true, Option.bind_some, sameC h h2, b32_if], by rw [fX8_alike, mWhy (by omega) (by omega), s1, if_neg (by decide), if_neg (by decide), Option.bind_some, if_pos (by decide), lit_nI0]; exact e⟩
  · have c2 : ¬ (0 ≤ v1.toInt ∧ v1.toInt ≤ 2) ∨ ¬ (0 ≤ v2.toInt ∧ v2.toInt ≤ 2) := by omega
    exact ⟨-2, by rw [fX7_alike, cBar0 c2, Option.bind_some, if_neg (by decide)], by rw [fX8_alike, mWhy0 c2, Option.bind_some, if_neg (by decide)]⟩
set_option maxHeartbeats 1000000 in
set_option maxRecDepth 100000 in
theorem cs_undo (t_now_told : Int32) (t_now_acts : Int32) (m_mem : Nat → Int32) (m_acted : Int32) (m_past : Nat → Int32) (t_now_numbers : Nat → Int32) (t_now_cells : Nat → Int32) (t_now_rows : Nat → Int32) (t_now_sizes : Nat → Int32) (t_now_rooms : Nat → Int32) (t_now_lines : Int32) (t_now_kinds : Int32)  (hN : PN t_now_numbers t_now_cells t_now_rows t_now_sizes t_now_rooms t_now_told t_now_lines t_now_kinds t_now_acts m_mem m_acted m_past) : ∃ (r : Int32) (o_t_now_acts : Int32) (o_m_mem : Nat → Int32) (o_m_acted : Int32), fX7_undo t_now_told t_now_acts = some (r, o_t_now_acts) ∧ fX8_undo m_mem m_acted m_past = some (r, o_m_mem, o_m_acted) ∧ PN t_now_numbers t_now_cells t_now_rows t_now_sizes t_now_rooms t_now_told t_now_lines t_now_kinds o_t_now_acts o_m_mem o_m_acted m_past := by
  rcases hN with hN | hN
  · obtain ⟨kn, a, ln, rfl, rfl, rfl, rfl, ha, rfl, hln1, hln2, hPl, hpast, hs⟩ := id hN
    obtain ⟨l, rm, hl8, hlt, hrm1, hrm8, hrow, hsize, hroom, m0, m1, m2, m3, mk, mt⟩ := id hs
    by_cases e : a = 0
    · subst e
      have e' : nI 0 = 0 := rfl
      exact ⟨-5, nI 0, m_mem, nI 0, by simp only [fX7_undo, e10, if_false, if_pos e'], by simp only [fX8_undo, mIs m3 hln1 hln2, Option.bind_some, e10, if_false, if_pos e'], Or.inl hN⟩
    · have e' : ¬ nI a = 0 := nI_ne (b := 0) e (by omega) (by omega)
      have es : nI a - 1 = nI (a - 1) := nI_sub (b := 1) (by omega)
      refine ⟨nI (a - 1), _, _, _, by simp only [fX7_undo, e10, if_false, if_neg e', es], by simp only [fX8_undo, mIs m3 hln1 hln2, Option.bind_some, e10, if_false, if_neg e', es, mBack (show a - 1 < 30 by omega), ob2_some]; rfl, Or.inl ⟨kn, a - 1, ln, rfl, rfl, rfl, rfl, by omega, rfl, hln1, hln2, hPl, fun j hj => hpast j (by omega), ?_⟩⟩
      refine Snap.congr hPl.1 (fun k hk => ?_) (hpast (a - 1) (by omega))
      show gb m_mem m_past (a - 1) 0 k = m_past (27 * (a - 1) + k)
      unfold gb
      rw [if_pos (by omega)]
  · obtain ⟨rfl, h2, h3, h4, h5, h6, h7, h8, h9⟩ := id hN
    exact ⟨-2, t_now_acts, m_mem, m_acted, by simp only [fX7_undo, if_true], by simp only [fX8_undo, mIs0 (h9 3 (by omega)), Option.bind_some, if_true], Or.inr hN⟩
set_option maxHeartbeats 1000000 in
set_option maxRecDepth 100000 in
theorem cs_anew (t_now_told : Int32) (t_now_acts : Int32) (m_mem : Nat → Int32) (m_acted : Int32) (m_past : Nat → Int32) (t_now_numbers : Nat → Int32) (t_now_cells : Nat → Int32) (t_now_rows : Nat → Int32) (t_now_sizes : Nat → Int32) (t_now_rooms : Nat → Int32) (t_now_lines : Int32) (t_now_kinds : Int32)  (hN : PN t_now_numbers t_now_cells t_now_rows t_now_sizes t_now_rooms t_now_told t_now_lines t_now_kinds t_now_acts m_mem m_acted m_past) : ∃ (r : Int32) (o_t_now_acts : Int32) (o_m_mem : Nat → Int32) (o_m_acted : Int32), fX7_anew t_now_told t_now_acts = some (r, o_t_now_acts) ∧ fX8_anew m_mem m_acted m_past = some (r, o_m_mem, o_m_acted) ∧ PN t_now_numbers t_now_cells t_now_rows t_now_sizes t_now_rooms t_now_told t_now_lines t_now_kinds o_t_now_acts o_m_mem o_m_acted m_past := by
  rcases hN with hN | hN
  · obtain ⟨kn, a, ln, rfl, rfl, rfl, rfl, ha, rfl, hln1, hln2, hPl, hpast, hs⟩ := id hN
    obtain ⟨l, rm, hl8, hlt, hrm1, hrm8, hrow, hsize, hroom, m0, m1, m2, m3, mk, mt⟩ := id hs
    by_cases e : a = 0
    · subst e
      have e' : nI 0 ≤ 0 := by decide
      exact ⟨nI 0, nI 0, m_mem, nI 0, by simp only [fX7_anew, e10, if_false]; rfl, by simp only [fX8_anew, mIs m3 hln1 hln2, Option.bind_some, e10, if_false, if_pos e'], Or.inl hN⟩
    · have e' : ¬ nI a ≤ 0 := fun q => absurd ((nI_le' (b := 0) (by omega) (by omega)).mp q) (by omega)
      refine ⟨nI a, nI 0, _, _, by simp only [fX7_anew, e10, if_false]; rfl, by simp only [fX8_anew, mIs m3 hln1 hln2, Option.bind_some, e10, if_false, if_neg e', mBack0, ob2_some]; rfl, Or.inl ⟨kn, 0, ln, rfl, rfl, rfl, rfl, by omega, rfl, hln1, hln2, hPl, fun j hj => absurd hj (by omega), ?_⟩⟩
      refine Snap.congr hPl.1 (fun k hk => ?_) (hpast 0 (by omega))
      show gb m_mem m_past 0 0 k = m_past (27 * 0 + k)
      unfold gb
      rw [if_pos (by omega)]
  · obtain ⟨rfl, h2, h3, h4, h5, h6, h7, h8, h9⟩ := id hN
    exact ⟨-2, t_now_acts, m_mem, m_acted, by simp only [fX7_anew, if_true], by simp only [fX8_anew, mIs0 (h9 3 (by omega)), Option.bind_some, if_true], Or.inr hN⟩
