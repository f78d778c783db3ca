/-! balanced -/
def balL (l : List Nat) : Nat → Nat → Bool
  | 0, _ => true
  | k + 1, i => (l.count (4 * i + 1) == l.count (4 * i + 2)) && balL l k (i + 1)
theorem count_le8 {l : List Nat} (hR : R16 l) (t : Nat) : l.count t ≤ 8 := Nat.le_trans List.count_le_length hR.2
theorem VW.balC_loop {numbers cells rows sizes rooms mem : Nat → Int32} {kn a : Nat} {l : List Nat} {rm : Nat} {nb : Nat → Int} (h : VW numbers cells rows sizes rooms mem kn a l rm nb) : ∀ (k n i : Nat), i + k = kn → k < n → fX1_isBalanced_2 n rows sizes (nI kn) (nI a) (nI i) = some (b32 (balL l k i)) := by
  have k3 := h.kn3
  intro k
  induction k with
  | zero =>
    intro n i hi hn
    obtain ⟨n, rfl, -⟩ := succ_of hn
    rw [fX1_isBalanced_2, if_pos ((nI_le' (by omega) (by omega)).mpr (by omega))]
    rfl
  | succ k ih =>
    intro n i hi hn
    obtain ⟨n, rfl, hn'⟩ := succ_of hn
    have c1 := count_le8 h.R (4 * i + 1)
    have c2 := count_le8 h.R (4 * i + 2)
    have e1 : nI i * 4 + 1 = nI (4 * i + 1) := by rw [lit_nI4, lit_nI1, nI_mul, nI_add, Nat.mul_comm]
    have e2 : nI i * 4 + 2 = nI (4 * i + 2) := by rw [lit_nI4, lit_nI2, nI_mul, nI_add, Nat.mul_comm]
    simp only [fX1_isBalanced_2, h.row, h.plies, Option.bind_some, e1, e2, howMany_pk h.R (show 4 * i + 1 < 16 by omega), howMany_pk h.R (show 4 * i + 2 < 16 by omega), nI_s, balL]
    rw [if_neg (fun q => by have := (nI_le' (by omega) (by omega)).mp q; omega)]
    by_cases e : l.count (4 * i + 1) = l.count (4 * i + 2)
    · rw [if_pos (by rw [e]), ih n (i + 1) (by omega) (by omega), beq_iff_eq.mpr e, Bool.true_and]
    · rw [if_neg (nI_ne e (by omega) (by omega)), beq_eq_false_iff_ne.mpr e, Bool.false_and]
      rfl
theorem bal_kn {l : List Nat} {kn : Nat} (hk : kn ≤ 3) (hl : ∀ t ∈ l, t < 4 * kn) : balL l kn 0 = balL l 3 0 := by
  have z : ∀ t, 4 * kn ≤ t → l.count t = 0 := fun t ht => List.count_eq_zero_of_not_mem (fun q => by have := hl t q; omega)
  have hk' : kn = 0 ∨ kn = 1 ∨ kn = 2 ∨ kn = 3 := by omega
  rcases hk' with rfl | rfl | rfl | rfl
  · simp only [balL, z _ (show 4 * 0 ≤ 4 * 0 + 1 by omega), z _ (show 4 * 0 ≤ 4 * 0 + 2 by omega), z _ (show 4 * 0 ≤ 4 * (0 + 1) + 1 by omega), z _ (show 4 * 0 ≤ 4 * (0 + 1) + 2 by omega), z _ (show 4 * 0 ≤ 4 * (0 + 1 + 1) + 1 by omega), z _ (show 4 * 0 ≤ 4 * (0 + 1 + 1) + 2 by omega)]
    rfl
  · simp only [balL, z _ (show 4 * 1 ≤ 4 * (0 + 1) + 1 by omega), z _ (show 4 * 1 ≤ 4 * (0 + 1) + 2 by omega), z _ (show 4 * 1 ≤ 4 * (0 + 1 + 1) + 1 by omega), z _ (show 4 * 1 ≤ 4 * (0 + 1 + 1) + 2 by omega)]
    simp
  · simp only [balL, z _ (show 4 * 2 ≤ 4 * (0 + 1 + 1) + 1 by omega), z _ (show 4 * 2 ≤ 4 * (0 + 1 + 1) + 2 by omega)]
    simp
  · rfl
theorem mBal_in {row : Nat → Int32} {l : List Nat} (hR : R16 l) (hr : RW row l) {t : Nat} (ht : t < 3) (k2 : (Nat → Int32) → Int32 → Int32 → Option Int32) : ∀ (k n i : Nat) (acc : Int), i + k = l.length → k < n → fX8_isBalanced_11 k2 n row (nI l.length) (nI t) (i32 acc) (nI i) = fX8_isBalanced_65 k2 row (nI l.length) (nI t) (i32 (acc + (((l.drop i).count (4 * t + 1) : Nat) : Int) - (((l.drop i).count (4 * t + 2) : Nat) : Int))) := by
  have l8 := hR.2
  have e1 : (4 : Int32) * nI t + 1 = nI (4 * t + 1) := by rw [lit_nI4, lit_nI1, nI_mul, nI_add]
  have e2 : (4 : Int32) * nI t + 2 = nI (4 * t + 2) := by rw [lit_nI4, lit_nI2, nI_mul, nI_add]
  intro k
  induction k with
  | zero =>
    intro n i acc hi hn
    obtain ⟨n, rfl, -⟩ := succ_of hn
    rw [fX8_isBalanced_11, if_pos ((nI_le' (by omega) (by omega)).mpr (by omega)), List.drop_eq_nil_of_le (by omega)]
    simp
  | succ k ih =>
    intro n i acc hi hn
    obtain ⟨n, rfl, hn'⟩ := succ_of hn
    have g := getD_lt12 hR i
    rw [fX8_isBalanced_11, if_neg (fun q => by have := (nI_le' (by omega) (by omega)).mp q; omega), chkN (by omega) (by omega), chkN (by omega) (by omega), nI_clamp' (by omega), hr i (by omega), e1, e2, dropD (by omega), count_if, count_if]
    simp only [fX8_isBalanced_57, nI_s]
    by_cases c1 : l.getD i 0 = 4 * t + 1
    · rw [if_pos (by rw [c1]), if_pos c1, if_neg (by omega), show (1 : Int32) = i32 1 from rfl, ← i32_add, ih n (i + 1) _ (by omega) (by omega)]
      congr 2
      omega
    · rw [if_neg (nI_ne c1 (by omega) (by omega)), if_neg c1]
      by_cases c2 : l.getD i 0 = 4 * t + 2
      · rw [if_pos (by rw [c2]), if_pos c2, show (-1 : Int32) = i32 (-1) from rfl, ← i32_add, ih n (i + 1) _ (by omega) (by omega)]
        congr 2
        omega
      · rw [if_neg (nI_ne c2 (by omega) (by omega)), if_neg c2, show (0 : Int32) = i32 0 from rfl, ← i32_add, ih n (i + 1) _ (by omega) (by omega)]
        congr 2
        omega
theorem mBal {row : Nat → Int32} {l : List Nat} (hR : R16 l) (hr : RW row l) : fX8_isBalanced row (nI l.length) = some (b32 (balL l 3 0)) := by
  have l8 := hR.2
  have e : ∀ (m t : Nat), t < 3 → fX8_isBalanced_2 (m + 1) row (nI l.length) (nI t) = if l.count (4 * t + 1) = l.count (4 * t + 2) then fX8_isBalanced_2 m row (nI l.length) (nI (t + 1)) else some 0 := by
    intro m t ht
    have c1 := count_le8 hR (4 * t + 1)
    have c2 := count_le8 hR (4 * t + 2)
    have q := mBal_in hR hr ht (fX8_isBalanced_2 m) l.length FU 0 0 (by omega) (FU_gt (by omega))
    rw [fX8_isBalanced_2, lit_nI3, if_neg (fun q => by have := (nI_le' (by omega) (by omega)).mp q; omega), show fX8_isBalanced_11 (fX8_isBalanced_2 m) FU row (nI l.length) (nI t) 0 0 = _ from q, fX8_isBalanced_65, nI_s, List.drop_zero]
    by_cases d : l.count (4 * t + 1) = l.count (4 * t + 2)
    · rw [if_pos d, if_pos]
      rw [d, show (0 : Int32) = i32 0 from rfl]
      congr 1
      omega
    · rw [if_neg d, if_neg]
      intro q
      have := (i32_eq (b := 0) ⟨by omega, by omega⟩ ⟨by omega, by omega⟩).mp q
      omega
  obtain ⟨n, hn⟩ := FU_10
  rw [fX8_isBalanced, lit_nI0, show fX8_isBalanced_2 FU = fX8_isBalanced_2 (n + 7 + 1 + 1 + 1) by rw [hn], e _ 0 (by omega), e _ 1 (by omega), e _ 2 (by omega), fX8_isBalanced_2, if_pos (show (3 : Int32) ≤ nI (2 + 1) by decide)]
  simp only [balL, Bool.and_true]
  by_cases d0 : l.count (4 * 0 + 1) = l.count (4 * 0 + 2)
  · by_cases d1 : l.count (4 * 1 + 1) = l.count (4 * 1 + 2)
    · by_cases d2 : l.count (4 * 2 + 1) = l.count (4 * 2 + 2)
      · rw [if_pos d0, if_pos d1, if_pos d2, beq_iff_eq.mpr d0, show (l.count (4 * (0 + 1) + 1) == l.count (4 * (0 + 1) + 2)) = true from beq_iff_eq.mpr d1, show (l.count (4 * (0 + 1 + 1) + 1) == l.count (4 * (0 + 1 + 1) + 2)) = true from beq_iff_eq.mpr d2]; rfl
      · rw [if_pos d0, if_pos d1, if_neg d2, show (l.count (4 * (0 + 1 + 1) + 1) == l.count (4 * (0 + 1 + 1) + 2)) = false from beq_eq_false_iff_ne.mpr d2, Bool.and_false, Bool.and_false]; rfl
    · rw [if_pos d0, if_neg d1, show (l.count (4 * (0 + 1) + 1) == l.count (4 * (0 + 1) + 2)) = false from beq_eq_false_iff_ne.mpr d1, Bool.false_and, Bool.and_false]; rfl
  · rw [if_neg d0, beq_eq_false_iff_ne.mpr d0, Bool.false_and]; rfl
