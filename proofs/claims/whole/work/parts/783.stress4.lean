/-! the greatest load; the weakest ply -/
def gtL (L A : Nat → Nat) (D : Nat) : Nat → Nat → Nat → Nat
  | 0, _, t => t
  | k + 1, i, t => gtL L A D k (i + 1) (if A i = 0 then t else min t (L i * D / A i))
theorem gtL_iff (L A : Nat → Nat) (D u : Nat) : ∀ (k i t : Nat), u ≤ gtL L A D k i t ↔ (u ≤ t ∧ ∀ j, i ≤ j → j < i + k → u * A j ≤ L j * D)
  | 0, i, t => by
    rw [gtL]
    exact ⟨fun h => ⟨h, fun j h1 h2 => by omega⟩, fun h => h.1⟩
  | k + 1, i, t => by
    rw [gtL, gtL_iff L A D u k (i + 1)]
    have key : u ≤ (if A i = 0 then t else min t (L i * D / A i)) ↔ (u ≤ t ∧ u * A i ≤ L i * D) := by
      by_cases c : A i = 0
      · rw [if_pos c, c, Nat.mul_zero]
        exact ⟨fun h => ⟨h, Nat.zero_le _⟩, fun h => h.1⟩
      · rw [if_neg c, Nat.le_min, Nat.le_div_iff_mul_le (by omega)]
    rw [key]
    constructor
    · rintro ⟨⟨h1, h2⟩, h3⟩
      refine ⟨h1, fun j h4 h5 => ?_⟩
      by_cases e : j = i
      · rw [e]; exact h2
      · exact h3 j (by omega) (by omega)
    · rintro ⟨h1, h2⟩
      exact ⟨⟨h1, h2 i (by omega) (by omega)⟩, fun j h3 h4 => h2 j (by omega) (by omega)⟩
theorem winL_iff (L A : Nat → Nat) (D : Nat) : ∀ (k i : Nat), winL L A D 0 k i = true ↔ ∀ j, i ≤ j → j < i + k → A j ≤ L j * D
  | 0, i => by
    rw [winL]
    exact ⟨fun _ j h1 h2 => by omega, fun _ => rfl⟩
  | k + 1, i => by
    rw [winL, Nat.zero_testBit, if_neg (by decide)]
    by_cases c : A i ≤ L i * D
    · rw [if_pos c, winL_iff L A D k (i + 1)]
      constructor
      · intro h j h1 h2
        by_cases e : j = i
        · rw [e]; exact c
        · exact h j (by omega) (by omega)
      · intro h j h1 h2
        exact h j (by omega) (by omega)
    · rw [if_neg c]
      constructor
      · intro h; exact absurd h (by decide)
      · intro h; exact absurd (h i (by omega) (by omega)) c
theorem al_mul (T : Nat → Int) (u x y z : Int) (q : Nat) : al (S3 T (u * x) (u * y) (u * z)) q = u * al (S3 T x y z) q := by
  unfold al S3
  repeat' split
  all_goals grind
section
variable {numbers cells rows sizes rooms mem : Nat → Int32} {kn a : Nat} {l : List Nat} {rm : Nat} {nb : Nat → Int}
theorem AA_mul (nb : Nat → Int) (l : List Nat) (u : Nat) (x y z : Int) (k : Nat) : AA nb l 0 (u * x) (u * y) (u * z) k = u * AA nb l 0 x y z k := by
  unfold AA
  rw [al_mul, Int.natAbs_mul]
  rfl
theorem WW_u {nb : Nat → Int} {l : List Nat} (hd : ¬ D3 (sT nb l 0 0) = 0) (u : Nat) (x y z : Int) : WW nb l (u * x) (u * y) (u * z) 0 = true ↔ ∀ j, j < l.length → u * AA nb l 0 x y z j ≤ lm nb l j * DD nb l 0 := by
  rw [WW, if_neg hd, winL_iff]
  constructor
  · intro h j hj
    have := h j (by omega) (by omega)
    rw [AA_mul] at this
    exact this
  · intro h j _ hj
    rw [AA_mul]
    exact h j (by omega)
theorem lmin_lN {x y : Nat} (hx : x < 9223372036854775808) (hy : y < 9223372036854775808) : lmin (lN x) (lN y) = lN (min x y) := by
  unfold lmin
  have e : lN y < lN x ↔ y < x := by
    rw [lN_i64, lN_i64, i64_lt ⟨by omega, by omega⟩ ⟨by omega, by omega⟩]
    omega
  by_cases c : y < x
  · rw [if_pos (e.mpr c), Nat.min_eq_right (by omega)]
  · rw [if_neg (fun q => c (e.mp q)), Nat.min_eq_left (by omega)]
theorem VW.gt_loop (h : VW numbers cells rows sizes rooms mem kn a l rm nb) {x y z : Int} (hx : -999 ≤ x ∧ x ≤ 999) (hy : -999 ≤ y ∧ y ≤ 999) (hz : -999 ≤ z ∧ z ≤ 999) {p : Nat → Int64} (hp : ∀ c, c < 3 → p c = i64 (2 * S3 (sT nb l 0 0) x y z c)) : ∀ (k n i t : Nat), i + k = l.length → k < n → t ≤ 999 → fX4_greatestTimes_6 n p (i64 (D3 (sT nb l 0 0))) numbers rows sizes (nI a) (lN t) (nI i) = some (nI (gtL (lm nb l) (AA nb l 0 x y z) (DD nb l 0) k i t)) := by
  have l8 := h.len
  have bD := h.dd_bd 0
  intro k
  induction k with
  | zero =>
    intro n i t hi hn ht
    obtain ⟨n, rfl, -⟩ := succ_of hn
    rw [fX4_greatestTimes_6, h.plies, Option.bind_some, if_le_y (by omega) (by omega), gtL, lN_i]
  | succ k ih =>
    intro n i t hi hn ht
    obtain ⟨n, rfl, hn'⟩ := succ_of hn
    have il : i < l.length := by omega
    obtain ⟨h1, h2, h3⟩ := h.lm_bd il
    have bA := h.aa_bd 0 hx hy hz (l.getD i 0 % 4)
    have bl := dl_bd h1.2 bD
    have bA' : AA nb l 0 x y z i ≤ 3 * (3 * (2 * (4800 * 4800) * 999)) := by unfold AA; omega
    rw [fX4_greatestTimes_6, h.plies, Option.bind_some, if_le_n (by omega) (by omega), h.strC2 hx hy hz hp il, Option.bind_some, gtL]
    simp only [fX4_greatestTimes_46, nI_s]
    have e0 : lg_cmp (lN (2 * AA nb l 0 x y z i)) 0 = 0 ↔ AA nb l 0 x y z i = 0 := by
      rw [lg_cmp_eq, lN_0 (by omega)]
      omega
    by_cases c : AA nb l 0 x y z i = 0
    · rw [if_pos (e0.mpr c), if_pos c, ih n (i + 1) t (by omega) (by omega) ht]
    · have e : lm nb l i * 2 * DD nb l 0 = 2 * (lm nb l i * DD nb l 0) := by rw [Nat.mul_comm (lm nb l i) 2, Nat.mul_assoc]
      rw [if_neg (fun q => c (e0.mp q)), if_neg c, h.boundC 0 il, Option.bind_some, nz_no (fun q => c (by have := (lN_0 (by omega)).mp q; omega)), e, lN_div (by omega) (by omega), Nat.mul_div_mul_left _ _ (by omega), lmin_lN (by omega) (by have := Nat.div_le_self (lm nb l i * DD nb l 0) (AA nb l 0 x y z i); omega), ih n (i + 1) _ (by omega) (by omega) (by omega)]
theorem VW.carM_loop (h : VW numbers cells rows sizes rooms mem kn a l rm nb) {row : Nat → Int32} (hr : RW row l) (hd : ¬ D3 (sT nb l 0 0) = 0) {v : Nat} (hv : v < 2) {t : Nat} (ht : ∀ u : Nat, u ≤ 999 → (WW nb l ((u : Int) * (if v = 0 then 1 else 0)) ((u : Int) * (if v = 1 then 1 else 0)) ((u : Int) * 0) 0 = true ↔ u ≤ t)) (t9 : t ≤ 999) : ∀ (k n : Nat) (st : Nat → Int64) (dt : Int64), t + k ≤ 999 → k < n → ∃ (st2 : Nat → Int64) (dt2 : Int64), fX8_carries_40 n mem row (nI l.length) 0 st dt (nI v) (nI (t + k)) = some (nI t, row, nI l.length, 0, st2, dt2) := by
  intro k
  induction k with
  | zero =>
    intro n st dt h9 hn
    obtain ⟨n, rfl, -⟩ := succ_of hn
    obtain ⟨st2, dt2, e⟩ := h.withinM hr (g := 0) (x := (t : Int) * (if v = 0 then 1 else 0)) (y := (t : Int) * (if v = 1 then 1 else 0)) (z := (t : Int) * 0) (by omega) (by split <;> omega) (by split <;> omega) (by omega) st dt
    rw [(ht t t9).mpr (Nat.le_refl _), ← lit_nI0] at e
    refine ⟨st2, dt2, ?_⟩
    have hv' : v = 0 ∨ v = 1 := by omega
    rw [fX8_carries_40, Nat.add_zero, to64, nI_int (by omega)]
    unfold fX8_carries_51 fX8_carries_62
    rcases hv' with rfl | rfl
    · rw [if_pos (show nI 0 = 0 from rfl), if_neg (show ¬ nI 0 = 1 by decide)]
      rw [if_pos rfl, if_neg (by decide), Int.mul_one, Int.mul_zero] at e
      rw [show (0 : Int64) = i64 0 from rfl, e, ob3_some, if_neg (show ¬ b32 true = 0 by decide)]
    · rw [if_neg (show ¬ nI 1 = 0 by decide), if_pos (show nI 1 = 1 from rfl)]
      rw [if_neg (by decide), if_pos rfl, Int.mul_one, Int.mul_zero] at e
      rw [show (0 : Int64) = i64 0 from rfl, to64, nI_int (by omega), e, ob3_some, if_neg (show ¬ b32 true = 0 by decide)]
  | succ k ih =>
    intro n st dt h9 hn
    obtain ⟨n, rfl, hn'⟩ := succ_of hn
    obtain ⟨st2, dt2, e⟩ := h.withinM hr (g := 0) (x := ((t + (k + 1) : Nat) : Int) * (if v = 0 then 1 else 0)) (y := ((t + (k + 1) : Nat) : Int) * (if v = 1 then 1 else 0)) (z := ((t + (k + 1) : Nat) : Int) * 0) (by omega) (by split <;> omega) (by split <;> omega) (by omega) st dt
    have hf : WW nb l (((t + (k + 1) : Nat) : Int) * (if v = 0 then 1 else 0)) (((t + (k + 1) : Nat) : Int) * (if v = 1 then 1 else 0)) (((t + (k + 1) : Nat) : Int) * 0) 0 = false := Bool.eq_false_iff.mpr (fun q => by have := (ht _ h9).mp q; omega)
    rw [hf, ← lit_nI0] at e
    have e1 : nI (t + (k + 1)) + (-1 : Int32) = nI (t + k) := by
      rw [nI_i32, nI_i32, show (-1 : Int32) = i32 (-1) from rfl, ← i32_add]
      congr 1
      omega
    obtain ⟨st3, dt3, i1⟩ := ih n st2 dt2 (by omega) (by omega)
    refine ⟨st3, dt3, ?_⟩
    have hv' : v = 0 ∨ v = 1 := by omega
    rw [fX8_carries_40, to64, nI_int (by omega)]
    unfold fX8_carries_51 fX8_carries_62
    rcases hv' with rfl | rfl
    · rw [if_pos (show nI 0 = 0 from rfl), if_neg (show ¬ nI 0 = 1 by decide)]
      rw [if_pos rfl, if_neg (by decide), Int.mul_one, Int.mul_zero] at e
      rw [show (0 : Int64) = i64 0 from rfl, e, ob3_some, if_pos (show b32 false = 0 from rfl), e1]
      exact i1
    · rw [if_neg (show ¬ nI 1 = 0 by decide), if_pos (show nI 1 = 1 from rfl)]
      rw [if_neg (by decide), if_pos rfl, Int.mul_one, Int.mul_zero] at e
      rw [show (0 : Int64) = i64 0 from rfl, to64, nI_int (by omega), e, ob3_some, if_pos (show b32 false = 0 from rfl), e1]
      exact i1
/-- the weakest ply -/
def wkL (L A : Nat → Nat) : Nat → Nat → Nat → Nat
  | 0, _, b => b
  | k + 1, i, b => wkL L A k (i + 1) (if A i = 0 then b else if b = 99 then i else if L b * A i ≤ L i * A b then b else i)
theorem rI_m1 {b : Nat} (h : b < 8 ∨ b = 99) : rI b = -1 ↔ b = 99 := by
  unfold rI
  by_cases c : b = 99
  · rw [if_pos c]; exact ⟨fun _ => c, fun _ => rfl⟩
  · rw [if_neg c]
    exact ⟨fun q => absurd q (m1_ne (by omega)), fun q => absurd q c⟩
theorem lA_bd {L A : Nat} (hL : L ≤ 999) (hA : A ≤ 3 * (3 * (2 * (4800 * 4800) * 999))) : L * A ≤ 999 * (3 * (3 * (2 * (4800 * 4800) * 999))) := Nat.mul_le_mul hL hA
theorem VW.wkC_loop (h : VW numbers cells rows sizes rooms mem kn a l rm nb) {x y z : Int} (hx : -999 ≤ x ∧ x ≤ 999) (hy : -999 ≤ y ∧ y ≤ 999) (hz : -999 ≤ z ∧ z ≤ 999) {p : Nat → Int64} (hp : ∀ c, c < 3 → p c = i64 (2 * S3 (sT nb l 0 0) x y z c)) : ∀ (k n i b : Nat), i + k = l.length → k < n → (b < l.length ∨ b = 99) → fX4_weakest_4 n p numbers rows sizes (nI a) (rI b) (nI i) = some (rI (wkL (lm nb l) (AA nb l 0 x y z) k i b)) := by
  have l8 := h.len
  have bA' : ∀ j, AA nb l 0 x y z j ≤ 3 * (3 * (2 * (4800 * 4800) * 999)) := fun j => by
    have bA := h.aa_bd 0 hx hy hz (l.getD j 0 % 4)
    unfold AA
    omega
  intro k
  induction k with
  | zero =>
    intro n i b hi hn hb
    obtain ⟨n, rfl, -⟩ := succ_of hn
    rw [fX4_weakest_4, h.plies, Option.bind_some, if_le_y (by omega) (by omega), wkL]
  | succ k ih =>
    intro n i b hi hn hb
    obtain ⟨n, rfl, hn'⟩ := succ_of hn
    have il : i < l.length := by omega
    obtain ⟨h1, h2, h3⟩ := h.lm_bd il
    have bi := bA' i
    have e0 : lg_cmp (lN (2 * AA nb l 0 x y z i)) 0 = 0 ↔ AA nb l 0 x y z i = 0 := by
      rw [lg_cmp_eq, lN_0 (by omega)]
      omega
    have ei : nI i = rI i := by rw [rI, if_neg (by omega)]
    rw [fX4_weakest_4, h.plies, Option.bind_some, if_le_n (by omega) (by omega), h.strC2 hx hy hz hp il, Option.bind_some, wkL]
    simp only [fX4_weakest_61, fX4_weakest_63, nI_s]
    by_cases c : AA nb l 0 x y z i = 0
    · rw [if_pos (e0.mpr c), if_pos c, ih n (i + 1) b (by omega) (by omega) hb]
    · rw [if_neg (fun q => c (e0.mp q)), if_neg c]
      by_cases d : b = 99
      · rw [if_pos ((rI_m1 (by omega)).mpr d), if_pos d, ei, ih n (i + 1) i (by omega) (by omega) (by omega)]
      · have bl : b < l.length := by omega
        have eb : rI b = nI b := by rw [rI, if_neg d]
        obtain ⟨g1, g2, g3⟩ := h.lm_bd bl
        have bb := bA' b
        have q1 := lA_bd h1.2 bb
        have q2 := lA_bd g1.2 bi
        rw [if_neg (fun q => d ((rI_m1 (by omega)).mp q)), if_neg d, h.limC il, Option.bind_some, eb, h.strC2 hx hy hz hp bl, Option.bind_some, h.limC bl, Option.bind_some, nI64 (by omega), nI64 (by omega), lN_mul, lN_mul, Nat.mul_left_comm, Nat.mul_left_comm (lm nb l b)]
        have hc : 0 ≤ lg_cmp (lN (2 * (lm nb l i * AA nb l 0 x y z b))) (lN (2 * (lm nb l b * AA nb l 0 x y z i))) ↔ lm nb l b * AA nb l 0 x y z i ≤ lm nb l i * AA nb l 0 x y z b := by
          rw [lg_cmp_ge, lN_le' (by omega) (by omega)]
          omega
        by_cases f : lm nb l b * AA nb l 0 x y z i ≤ lm nb l i * AA nb l 0 x y z b
        · rw [if_pos (hc.mpr f), if_pos f, ← eb, ih n (i + 1) b (by omega) (by omega) hb]
        · rw [if_neg (fun q => f (hc.mp q)), if_neg f, ei, ih n (i + 1) i (by omega) (by omega) (by omega)]
theorem VW.wkM_loop (h : VW numbers cells rows sizes rooms mem kn a l rm nb) {row : Nat → Int32} (hr : RW row l) {x y z : Int} (hx : -999 ≤ x ∧ x ≤ 999) (hy : -999 ≤ y ∧ y ≤ 999) (hz : -999 ≤ z ∧ z ≤ 999) {p : Nat → Int64} (hp : ∀ c, c < 3 → p c = i64 (S3 (sT nb l 0 0) x y z c)) {lost v4 : Int32} {dt : Int64} : ∀ (k n i b : Nat), i + k = l.length → k < n → (b < l.length ∨ b = 99) → fX8_factor_76 n mem row (nI l.length) lost p dt v4 (rI b) (nI i) = fX8_factor_142 mem row (nI l.length) lost p dt v4 (rI (wkL (lm nb l) (AA nb l 0 x y z) k i b)) := by
  have l8 := h.len
  have bA' : ∀ j, AA nb l 0 x y z j ≤ 3 * (3 * (2 * (4800 * 4800) * 999)) := fun j => by
    have bA := h.aa_bd 0 hx hy hz (l.getD j 0 % 4)
    unfold AA
    omega
  intro k
  induction k with
  | zero =>
    intro n i b hi hn hb
    obtain ⟨n, rfl, -⟩ := succ_of hn
    rw [fX8_factor_76, if_le_y (by omega) (by omega), wkL]
  | succ k ih =>
    intro n i b hi hn hb
    obtain ⟨n, rfl, hn'⟩ := succ_of hn
    have il : i < l.length := by omega
    obtain ⟨h1, h2, h3⟩ := h.lm_bd il
    have bi := bA' i
    have e0 : lg_cmp (lN (AA nb l 0 x y z i)) 0 = 0 ↔ AA nb l 0 x y z i = 0 := by
      rw [lg_cmp_eq, lN_0 (by omega)]
    have ei : nI i = rI i := by rw [rI, if_neg (by omega)]
    rw [fX8_factor_76, if_le_n (by omega) (by omega), h.alM hr hx hy hz hp il, Option.bind_some, wkL]
    simp only [fX8_factor_132, fX8_factor_136, nI_s]
    by_cases c : AA nb l 0 x y z i = 0
    · rw [if_pos (e0.mpr c), if_pos c, ih n (i + 1) b (by omega) (by omega) hb]
    · rw [if_neg (fun q => c (e0.mp q)), if_neg c]
      by_cases d : b = 99
      · rw [if_pos ((rI_m1 (by omega)).mpr d), if_pos d, ei, ih n (i + 1) i (by omega) (by omega) (by omega)]
      · have bl : b < l.length := by omega
        have eb : rI b = nI b := by rw [rI, if_neg d]
        obtain ⟨g1, g2, g3⟩ := h.lm_bd bl
        have bb := bA' b
        have q1 := lA_bd h1.2 bb
        have q2 := lA_bd g1.2 bi
        rw [if_neg (fun q => d ((rI_m1 (by omega)).mp q)), if_neg d, h.limM hr il, Option.bind_some, eb, h.alM hr hx hy hz hp bl, Option.bind_some, h.limM hr bl, Option.bind_some, Option.bind_some, lN_mul, lN_mul]
        have hc : 0 ≤ lg_cmp (lN (lm nb l i * AA nb l 0 x y z b)) (lN (lm nb l b * AA nb l 0 x y z i)) ↔ lm nb l b * AA nb l 0 x y z i ≤ lm nb l i * AA nb l 0 x y z b := by
          rw [lg_cmp_ge, lN_le' (by omega) (by omega)]
        by_cases f : lm nb l b * AA nb l 0 x y z i ≤ lm nb l i * AA nb l 0 x y z b
        · rw [if_pos (hc.mpr f), if_pos f, ← eb, ih n (i + 1) b (by omega) (by omega) hb]
        · rw [if_neg (fun q => f (hc.mp q)), if_neg f, ei, ih n (i + 1) i (by omega) (by omega) (by omega)]
theorem wkL_lt {L A : Nat → Nat} {N : Nat} : ∀ (k i b : Nat), i + k ≤ N → (b < N ∨ b = 99) → (b = 99 ∨ A b ≠ 0) → (wkL L A k i b < N ∨ wkL L A k i b = 99) ∧ (wkL L A k i b = 99 ∨ A (wkL L A k i b) ≠ 0)
  | 0, i, b, _, hb, hA => by rw [wkL]; exact ⟨hb, hA⟩
  | k + 1, i, b, hi, hb, hA => by
    rw [wkL]
    refine wkL_lt k (i + 1) _ (by omega) ?_ ?_
    · repeat' split
      all_goals omega
    · by_cases c : A i = 0
      · rw [if_pos c]; exact hA
      · rw [if_neg c]
        by_cases d : b = 99
        · rw [if_pos d]; exact Or.inr c
        · rw [if_neg d]
          split
          · exact hA
          · exact Or.inr c
end
theorem low_2 {x y : Nat} (hx : 2 * x < 9223372036854775808) (hy : 2 * y < 9223372036854775808) (h0 : 0 < y) (w : Nat) : low (((2 * x : Nat)) : Int) (((2 * y : Nat)) : Int) w = low (x : Int) (y : Int) w := by
  have gl : Nat.gcd x y ≤ y := Nat.gcd_le_right _ (by omega)
  unfold low
  simp only [Int.natAbs_natCast, ← lN_i64]
  rw [if_neg (show ¬ ((2 * y : Nat) : Int) < 0 by omega), if_neg (show ¬ (y : Int) < 0 by omega), Nat.gcd_mul_left, lN_div (by omega) (by omega), lN_div (by omega) (by omega), lN_div (by omega) (by omega), lN_div (by omega) (by omega), Nat.mul_div_mul_left _ _ (by omega), Nat.mul_div_mul_left _ _ (by omega)]
