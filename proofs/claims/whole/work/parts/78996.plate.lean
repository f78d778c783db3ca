/-! the model's way through a text -/
theorem plate2 (tp : Nat → Int32) (acted taped fk fp mat mbg mtk mv bad : Int32) (na ml : Nat → Int32) : ∀ (k i fu : Nat) (mem was : Nat → Int32), i + k = 27 → k < fu → ∃ mem' was' : Nat → Int32, fX8_plate_2 fu mem was acted tp taped fk fp mat mbg mtk mv bad na ml (nI i) = fX8_plate_33 mem' was' acted tp taped fk fp mat mbg mtk mv bad na ml ∧ (∀ j, i ≤ j → j < 27 → mem' j = 0 ∧ was' j = mem j) ∧ ∀ j, j < i → mem' j = mem j ∧ was' j = was j := by
  intro k
  induction k with
  | zero =>
    intro i fu mem was hi hfu
    obtain ⟨fu, rfl, -⟩ := succ_of hfu
    refine ⟨mem, was, ?_, fun j h1 h2 => by omega, fun j _ => ⟨rfl, rfl⟩⟩
    rw [fX8_plate_2, lit_nI27, if_le_y (by omega) (by omega)]
  | succ k ih =>
    intro i fu mem was hi hfu
    obtain ⟨fu, rfl, hfu'⟩ := succ_of hfu
    obtain ⟨m2, w2, h1, h2, h3⟩ := ih (i + 1) fu (upd mem i 0) (upd was i (mem i)) (by omega) (by omega)
    refine ⟨m2, w2, ?_, fun j q1 q2 => ?_, fun j q => ?_⟩
    · rw [fX8_plate_2, lit_nI27, if_le_n (by omega) (by omega), chkN (by omega) (by omega), chkN (by omega) (by omega), chkN (by omega) (by omega), nI_clamp' (by omega), nI_s]
      exact h1
    · by_cases y : j = i
      · subst y
        obtain ⟨a1, a2⟩ := h3 j (by omega)
        rw [upd_same] at a1 a2
        exact ⟨a1, a2⟩
      · obtain ⟨a1, a2⟩ := h2 j (by omega) q2
        rw [upd_ne _ _ y] at a2
        exact ⟨a1, a2⟩
    · obtain ⟨a1, a2⟩ := h3 j (by omega)
      rw [upd_ne _ _ (by omega)] at a1 a2
      exact ⟨a1, a2⟩
theorem plate75 (was : Nat → Int32) (acted taped fk fp mat mbg mtk mv bad : Int32) (na ml : Nat → Int32) : ∀ (k i fu : Nat) (mem : Nat → Int32), i + k = 27 → k < fu → ∃ mem' : Nat → Int32, fX8_plate_75 fu mem was acted taped fk fp mat mbg mtk mv bad na ml (nI i) = some (-4, mem', was, acted, taped, fk, fp, mat, mbg, mtk, mv, bad, na, ml) ∧ (∀ j, i ≤ j → j < 27 → mem' j = was j) ∧ ∀ j, j < i → mem' j = mem j := by
  intro k
  induction k with
  | zero =>
    intro i fu mem hi hfu
    obtain ⟨fu, rfl, -⟩ := succ_of hfu
    refine ⟨mem, ?_, fun j h1 h2 => by omega, fun j _ => rfl⟩
    rw [fX8_plate_75, lit_nI27, if_le_y (by omega) (by omega)]
  | succ k ih =>
    intro i fu mem hi hfu
    obtain ⟨fu, rfl, hfu'⟩ := succ_of hfu
    obtain ⟨m2, h1, h2, h3⟩ := ih (i + 1) fu (upd mem i (was i)) (by omega) (by omega)
    refine ⟨m2, ?_, fun j q1 q2 => ?_, fun j q => ?_⟩
    · rw [fX8_plate_75, lit_nI27, if_le_n (by omega) (by omega), chkN (by omega) (by omega), chkN (by omega) (by omega), nI_clamp' (by omega), nI_s]
      exact h1
    · by_cases y : j = i
      · subst y
        rw [h3 j (by omega), upd_same]
      · exact h2 j (by omega) q2
    · rw [h3 j (by omega), upd_ne _ _ (by omega)]
theorem PN.congr {numbers cells rows sizes rooms mem past mem2 : Nat → Int32} {told lines kinds acts acted : Int32} (h : PN numbers cells rows sizes rooms told lines kinds acts mem acted past) (hm : ∀ q, q < 27 → mem2 q = mem q) : PN numbers cells rows sizes rooms told lines kinds acts mem2 acted past := by
  rcases h with h | ⟨h1, h2, h3, h4, h5, h6, h7, h8, h9⟩
  · exact Or.inl (h.congr rfl hm (fun _ _ _ _ _ => rfl))
  · exact Or.inr ⟨h1, h2, h3, h4, h5, h6, h7, h8, fun k hk => (hm k hk).trans (h9 k hk)⟩
theorem DR.now {kn q n : Nat} {l : List Nat} {numbers cells rows sizes rooms mem : Nat → Int32} (hD : DR kn q l numbers cells rows sizes rooms mem) (hq : q ≤ n) (hn : n ≤ 600) (past : Nat → Int32) : PN numbers cells rows sizes rooms (if q = 0 then 0 else 1) (nI q) (nI kn) 0 mem 0 past := by
  obtain ⟨⟨p1, p2, p3⟩, d2, d3, d4, d5, d6, d7, d8, d9⟩ := hD
  rcases d9 with ⟨z1, z2, z3, z4, z5⟩ | ⟨z1, rm, z2, z3, z4, z5⟩
  · subst z1
    subst z2
    subst z3
    exact Or.inr ⟨if_pos rfl, rfl, rfl, rfl, rfl, d4, d5, z4, z5⟩
  · exact Or.inl ⟨kn, 0, q, if_neg (by omega), rfl, rfl, rfl, by omega, rfl, z1, by omega, p1, fun j hj => by omega, l, rm, d2, d3, z2, z3, d4, d5, z4, z5, p2, d6, d7, p3, d8⟩
