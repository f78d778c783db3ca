set_option maxHeartbeats 4000000 in
set_option maxRecDepth 100000 in
theorem cs_end (t_tape_size : Int32) (m_taped : Int32) (t_tape_bytes : Nat → Int32) (m_tape : Nat → Int32) (v1 : Int32) (hT : PT t_tape_bytes t_tape_size m_tape m_taped) : ∃ (r : Int32) (o_t_tape_size : Int32) (o_m_taped : Int32), fX7_end t_tape_size v1 = some (r, o_t_tape_size) ∧ fX8_end m_taped v1 = some (r, o_m_taped) ∧ PT t_tape_bytes o_t_tape_size m_tape o_m_taped := by
  obtain ⟨n, hn, rfl, rfl, hb⟩ := id hT
  have hin : fX8_in v1.toInt64 0 (nI n).toInt64 = if 0 ≤ v1.toInt ∧ v1.toInt ≤ (n : Int) then 1 else 0 := by rw [in_spec, Int32.toInt_toInt64, nI_int (by omega)]; rfl
  by_cases c : 0 ≤ v1.toInt ∧ v1.toInt ≤ (n : Int)
  · obtain ⟨k, rfl, hk, -⟩ := int_nat c.1
    have d1 : ¬ nI k < 0 := fun q => absurd ((lt0_iff _).mp q) (by omega)
    have d2 : nI k ≤ nI n := (nI_le_r (by omega)).mpr c.2
    exact ⟨nI k, nI k, nI k, by simp only [fX7_end, if_neg d1, if_pos d2], by simp only [fX8_end, hin, if_pos c, e10, if_false], k, by omega, rfl, rfl, fun j hj => hb j (by omega)⟩
  · by_cases c1 : v1.toInt < 0
    · have d1 : v1 < 0 := (lt0_iff _).mpr c1
      exact ⟨-1, nI n, nI n, by simp only [fX7_end, if_pos d1], by simp only [fX8_end, hin, if_neg c, if_true], hT⟩
    · have d1 : ¬ v1 < 0 := fun q => c1 ((lt0_iff _).mp q)
      have d2 : ¬ v1 ≤ nI n := fun q => absurd ((nI_le_r (by omega)).mp q) (by omega)
      exact ⟨-1, nI n, nI n, by simp only [fX7_end, if_neg d1, if_neg d2], by simp only [fX8_end, hin, if_neg c, if_true], hT⟩
