/-! runs of like angles: a row's runs by its bits 'has the angle of the ply below' -/
def eqv (l : List Nat) (i : Nat) : Bool := decide (0 < i ∧ l.getD i 0 % 4 = l.getD (i - 1) 0 % 4)
def ebits (l : List Nat) : Nat → Nat
  | 0 => 0
  | k + 1 => (if eqv l k then 2 ^ k else 0) + ebits l k
theorem ebits_lt (l : List Nat) : ∀ k, ebits l k < 2 ^ k
  | 0 => by simp [ebits]
  | k + 1 => by
    have := ebits_lt l k
    rw [ebits, Nat.pow_succ]
    split <;> omega
theorem ebits_bit (l : List Nat) : ∀ k i, i < k → (ebits l k).testBit i = eqv l i
  | 0, i, h => absurd h (by omega)
  | k + 1, i, h => by
    rw [ebits]
    by_cases c : i = k
    · subst c
      have z : (ebits l i).testBit i = false := Nat.testBit_lt_two_pow (ebits_lt l i)
      by_cases d : eqv l i = true
      · rw [if_pos d, Nat.testBit_two_pow_add_eq, z, d]; rfl
      · rw [if_neg d, Nat.zero_add, z]
        exact (Bool.eq_false_iff.mpr d).symm
    · by_cases d : eqv l k = true
      · rw [if_pos d, Nat.testBit_two_pow_add_gt (by omega), ebits_bit l k i (by omega)]
      · rw [if_neg d, Nat.zero_add, ebits_bit l k i (by omega)]
def eb (l : List Nat) : Nat := ebits l 8
theorem eb_bit (l : List Nat) {i : Nat} (h : i < 8) : (eb l).testBit i = eqv l i := ebits_bit l 8 i h
theorem eb_lt (l : List Nat) : eb l < 256 := ebits_lt l 8
def nx (b i c : Nat) : Nat := if b.testBit i then c + 1 else 1
def rnB (b : Nat) : Nat → Nat → Nat → Nat → Nat
  | 0, _, _, m => m
  | k + 1, i, c, m => rnB b k (i + 1) (nx b i c) (max m (nx b i c))
def frB (b m : Nat) : Nat → Nat → Nat → Nat
  | 0, _, _ => 99
  | k + 1, i, c => if nx b i c = m then i + 1 - nx b i c else frB b m k (i + 1) (nx b i c)
def fwB (b n : Nat) : Nat → Nat → Nat → Nat
  | 0, _, j => j
  | k + 1, p, j => if n ≤ p + j then j else if b.testBit (p + j) then fwB b n k p (j + 1) else j
def fmB (b n m : Nat) : Nat → Nat → Nat
  | 0, _ => 99
  | k + 1, p => if fwB b n (n - p) p 1 = m then p else fmB b n m k (p + 1)
def lgr (l : List Nat) : Nat := rnB (eb l) l.length 0 0 0
theorem run_same : ∀ b, b < 256 → b.testBit 0 = false → ∀ n, n < 9 → frB b (rnB b n 0 0 0) n 0 0 = fmB b n (rnB b n 0 0 0) n 0 := by decide +kernel
theorem run_le : ∀ b, b < 256 → ∀ n, n < 9 → rnB b n 0 0 0 ≤ 8 := by decide +kernel
theorem eb_0 (l : List Nat) : (eb l).testBit 0 = false := by
  rw [eb_bit l (by omega)]
  simp [eqv]
theorem lgr_le {l : List Nat} (h : l.length ≤ 8) : lgr l ≤ 8 := run_le _ (eb_lt l) _ (by omega)
theorem imax_nI {a b : Nat} (ha : a < 2147483648) (hb : b < 2147483648) : imax (nI a) (nI b) = nI (max a b) := by
  unfold imax
  by_cases c : a < b
  · rw [if_lt_y c hb, Nat.max_eq_right (by omega)]
  · rw [if_lt_n (by omega) ha, Nat.max_eq_left (by omega)]
theorem imax1_nI {b : Nat} (h : 1 ≤ b) (hb : b < 2147483648) : imax 1 (nI b) = nI b := by
  rw [lit_nI1, imax_nI (by omega) hb, Nat.max_eq_right h]
theorem imin_nI {a b : Nat} (ha : a < 2147483648) (hb : b < 2147483648) : imin (nI a) (nI b) = nI (min a b) := by
  unfold imin
  by_cases c : b < a
  · rw [if_lt_y c ha, Nat.min_eq_right (by omega)]
  · rw [if_lt_n (by omega) hb, Nat.min_eq_left (by omega)]
theorem nx_le {b i c k : Nat} (h : c ≤ k) : nx b i c ≤ k + 1 := by
  unfold nx
  split <;> omega
theorem nx_of {l : List Nat} {i c : Nat} (h : i < 8) : nx (eb l) i c = if 0 < i ∧ l.getD i 0 % 4 = l.getD (i - 1) 0 % 4 then c + 1 else 1 := by
  unfold nx
  rw [eb_bit l h]
  unfold eqv
  by_cases d : 0 < i ∧ l.getD i 0 % 4 = l.getD (i - 1) 0 % 4
  · rw [if_pos d, if_pos (decide_eq_true d)]
  · rw [if_neg d, if_neg (by rw [decide_eq_false d]; decide)]
theorem cRun_loop {l : List Nat} (hR : R16 l) : ∀ (k n i c m : Nat), i + k = l.length → k < n → c ≤ i → m ≤ i → fX3_longestRun_7 n (pk l) (nI l.length) (nI m) (nI c) (nI i) = some (nI (rnB (eb l) k i c m)) := by
  have l8 := hR.2
  intro k
  induction k with
  | zero =>
    intro n i c m hi hn hc hm
    obtain ⟨n, rfl, -⟩ := succ_of hn
    rw [fX3_longestRun_7, if_le_y (by omega) (by omega), rnB]
  | succ k ih =>
    intro n i c m hi hn hc hm
    obtain ⟨n, rfl, hn'⟩ := succ_of hn
    have st : ∀ z, z = nI (nx (eb l) i c) → fX3_longestRun_42 (fX3_longestRun_7 n) (pk l) (nI l.length) (nI m) (nI i) z = some (nI (rnB (eb l) (k + 1) i c m)) := by
      intro z hz
      have b1 := nx_le (b := eb l) (i := i) hc
      rw [fX3_longestRun_42, hz, imax_nI (by omega) (by omega), nI_s, ih n (i + 1) _ _ (by omega) (by omega) b1 (by omega), rnB]
    rw [fX3_longestRun_7, if_le_n (by omega) (by omega), lit_nI0]
    by_cases c0 : i = 0
    · rw [if_le_y (by omega) (by omega), fX3_longestRun_41]
      exact st _ (by rw [nx_of (by omega), if_neg (by omega)]; rfl)
    · rw [if_le_n (by omega) (by omega), show nI i - 1 = nI (i - 1) from nI_sub (b := 1) (by omega), angleAt_pk hR (by omega), angleAt_pk hR (by omega)]
      by_cases d : l.getD i 0 % 4 = l.getD (i - 1) 0 % 4
      · rw [if_eq_y d, nI_s]
        exact st _ (by rw [nx_of (by omega), if_pos ⟨by omega, d⟩])
      · rw [if_eq_n d (by omega) (by omega), fX3_longestRun_41]
        exact st _ (by rw [nx_of (by omega), if_neg (fun q => d q.2)]; rfl)
theorem cRun {l : List Nat} (hR : R16 l) : fX3_longestRun (pk l) (nI l.length) = some (nI (lgr l)) := by
  have := cRun_loop hR l.length FU 0 0 0 (by omega) (FU_gt (by have := hR.2; omega)) (by omega) (by omega)
  rw [fX3_longestRun]
  exact this
theorem mRun_loop {row : Nat → Int32} {l : List Nat} (hR : R16 l) (hr : RW row l) : ∀ (k n i c m : Nat), i + k = l.length → k < n → c ≤ i → m ≤ i → fX8_longestRun_6 n row (nI l.length) (nI m) (nI c) (nI i) = some (nI (rnB (eb l) k i c m)) := by
  have l8 := hR.2
  intro k
  induction k with
  | zero =>
    intro n i c m hi hn hc hm
    obtain ⟨n, rfl, -⟩ := succ_of hn
    rw [fX8_longestRun_6, if_le_y (by omega) (by omega), rnB]
  | succ k ih =>
    intro n i c m hi hn hc hm
    obtain ⟨n, rfl, hn'⟩ := succ_of hn
    have st : ∀ z, z = nI (nx (eb l) i c) → fX8_longestRun_46 (fX8_longestRun_6 n) row (nI l.length) (nI m) (nI i) z = some (nI (rnB (eb l) (k + 1) i c m)) := by
      intro z hz
      have b1 := nx_le (b := eb l) (i := i) hc
      rw [fX8_longestRun_46, hz, imax_nI (by omega) (by omega), nI_s, ih n (i + 1) _ _ (by omega) (by omega) b1 (by omega), rnB]
    rw [fX8_longestRun_6, if_le_n (by omega) (by omega), lit_nI0]
    by_cases c0 : i = 0
    · rw [if_le_y (by omega) (by omega), fX8_longestRun_45]
      exact st _ (by rw [nx_of (by omega), if_neg (by omega)]; rfl)
    · have g1 := getD_lt12 hR i
      have g2 := getD_lt12 hR (i - 1)
      rw [if_le_n (by omega) (by omega), show nI i - 1 = nI (i - 1) from nI_sub (b := 1) (by omega), chkN (by omega) (by omega), chkN (by omega) (by omega), nI_clamp' (by omega), nI_clamp' (by omega), hr i (by omega), hr (i - 1) (by omega), lit_nI4, irem_nI (by omega) (by omega) (by omega), irem_nI (by omega) (by omega) (by omega)]
      by_cases d : l.getD i 0 % 4 = l.getD (i - 1) 0 % 4
      · rw [if_eq_y d, nI_s]
        exact st _ (by rw [nx_of (by omega), if_pos ⟨by omega, d⟩])
      · rw [if_eq_n d (by omega) (by omega), fX8_longestRun_45]
        exact st _ (by rw [nx_of (by omega), if_neg (fun q => d q.2)]; rfl)
theorem mRun {row : Nat → Int32} {l : List Nat} (hR : R16 l) (hr : RW row l) : fX8_longestRun row (nI l.length) = some (nI (lgr l)) := by
  have := mRun_loop hR hr l.length FU 0 0 0 (by omega) (FU_gt (by have := hR.2; omega)) (by omega) (by omega)
  rw [fX8_longestRun]
  exact this
def rI (x : Nat) : Int32 := if x = 99 then -1 else nI x
theorem cFirst_loop {l : List Nat} (hR : R16 l) {m : Nat} (hm : m ≤ 8) : ∀ (k n i c : Nat), i + k = l.length → k < n → c ≤ i → fX3_firstRun_5 n (pk l) (nI l.length) (nI m) (nI c) (nI i) = some (rI (frB (eb l) m k i c)) := by
  have l8 := hR.2
  intro k
  induction k with
  | zero =>
    intro n i c hi hn hc
    obtain ⟨n, rfl, -⟩ := succ_of hn
    rw [fX3_firstRun_5, if_le_y (by omega) (by omega), frB]
    rfl
  | succ k ih =>
    intro n i c hi hn hc
    obtain ⟨n, rfl, hn'⟩ := succ_of hn
    have st : ∀ z, z = nI (nx (eb l) i c) → fX3_firstRun_40 (fX3_firstRun_5 n) (pk l) (nI l.length) (nI m) (nI i) z = some (rI (frB (eb l) m (k + 1) i c)) := by
      intro z hz
      have b1 := nx_le (b := eb l) (i := i) hc
      rw [fX3_firstRun_40, hz, frB, nI_s]
      by_cases d : nx (eb l) i c = m
      · rw [if_eq_y d, if_pos d, nI_sub (by omega), rI, if_neg (by omega)]
      · rw [if_eq_n d (by omega) (by omega), if_neg d, ih n (i + 1) _ (by omega) (by omega) b1]
    rw [fX3_firstRun_5, if_le_n (by omega) (by omega), lit_nI0]
    by_cases c0 : i = 0
    · rw [if_le_y (by omega) (by omega), fX3_firstRun_39]
      exact st _ (by rw [nx_of (by omega), if_neg (by omega)]; rfl)
    · rw [if_le_n (by omega) (by omega), show nI i - 1 = nI (i - 1) from nI_sub (b := 1) (by omega), angleAt_pk hR (by omega), angleAt_pk hR (by omega)]
      by_cases d : l.getD i 0 % 4 = l.getD (i - 1) 0 % 4
      · rw [if_eq_y d, nI_s]
        exact st _ (by rw [nx_of (by omega), if_pos ⟨by omega, d⟩])
      · rw [if_eq_n d (by omega) (by omega), fX3_firstRun_39]
        exact st _ (by rw [nx_of (by omega), if_neg (fun q => d q.2)]; rfl)
theorem mFirst_in {row : Nat → Int32} {l : List Nat} (hR : R16 l) (hr : RW row l) {lost m : Int32} {p : Nat} (k37 : (Nat → Int32) → Int32 → Int32 → Int32 → Int32 → Option (Int32 × (Nat → Int32) × Int32 × Int32)) : ∀ (k n j : Nat), p + j + k = l.length → k < n → 1 ≤ j → l.getD (p + j - 1) 0 % 4 = l.getD p 0 % 4 → fX8_run_48 k37 n row (nI l.length) lost m (nI p) (nI j) = fX8_run_87 k37 row (nI l.length) lost m (nI p) (nI (fwB (eb l) l.length (k + 1) p j)) := by
  have l8 := hR.2
  intro k
  induction k with
  | zero =>
    intro n j hj hn h1 ha
    obtain ⟨n, rfl, -⟩ := succ_of hn
    rw [fX8_run_48, nI_add, if_le_y (by omega) (by omega), fwB, if_pos (by omega)]
  | succ k ih =>
    intro n j hj hn h1 ha
    obtain ⟨n, rfl, hn'⟩ := succ_of hn
    have g1 := getD_lt12 hR p
    have g2 := getD_lt12 hR (p + j)
    rw [fX8_run_48, nI_add, if_le_n (by omega) (by omega), chkN (by omega) (by omega), chkN (by omega) (by omega), nI_clamp' (by omega), nI_clamp' (by omega), hr p (by omega), hr (p + j) (by omega), lit_nI4, irem_nI (by omega) (by omega) (by omega), irem_nI (by omega) (by omega) (by omega), nI_s, fwB, if_neg (show ¬ l.length ≤ p + j by omega), eb_bit l (by omega), eqv, ha]
    by_cases d : l.getD (p + j) 0 % 4 = l.getD p 0 % 4
    · rw [if_eq_y d, if_pos (decide_eq_true ⟨by omega, d⟩), ih n (j + 1) (by omega) (by omega) (by omega) (by rw [show p + (j + 1) - 1 = p + j by omega]; exact d)]
    · rw [if_eq_n d (by omega) (by omega), if_neg (by rw [decide_eq_false (fun q => d q.2)]; decide)]
theorem fwB_le (b n : Nat) : ∀ (k p j : Nat), fwB b n k p j ≤ j + k
  | 0, _, j => Nat.le_refl _
  | k + 1, p, j => by
    have := fwB_le b n k p (j + 1)
    rw [fwB]
    repeat' split
    all_goals omega
theorem mFirst_loop {row : Nat → Int32} {l : List Nat} (hR : R16 l) (hr : RW row l) {lost : Int32} {m : Nat} (hm : m ≤ 8) : ∀ (k n p : Nat), p + k = l.length → k < n → fX8_run_37 n row (nI l.length) lost (nI m) (nI p) = some (rI (fmB (eb l) l.length m k p), row, nI l.length, lost) := by
  have l8 := hR.2
  intro k
  induction k with
  | zero =>
    intro n p hp hn
    obtain ⟨n, rfl, -⟩ := succ_of hn
    rw [fX8_run_37, if_le_y (by omega) (by omega), fmB]
    rfl
  | succ k ih =>
    intro n p hp hn
    obtain ⟨n, rfl, hn'⟩ := succ_of hn
    have b1 := fwB_le (eb l) l.length (k + 1) p 1
    rw [fX8_run_37, if_le_n (by omega) (by omega), lit_nI1, mFirst_in hR hr _ k FU 1 (by omega) (FU_gt (by omega)) (by omega) (by rw [Nat.add_sub_cancel]), fX8_run_87, fmB, show l.length - p = k + 1 by omega, nI_s]
    by_cases d : fwB (eb l) l.length (k + 1) p 1 = m
    · rw [if_eq_y d, if_pos d, rI, if_neg (by omega)]
    · rw [if_eq_n d (by omega) (by omega), if_neg d, ih n (p + 1) (by omega) (by omega)]
