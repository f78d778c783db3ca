/-! the longest common row -/
def lc (l l2 : List Nat) : Nat → Nat → Nat
  | 0, _ => 0
  | _ + 1, 0 => 0
  | x + 1, y + 1 => if l.getD x 0 = l2.getD y 0 then lc l l2 x y + 1 else max (lc l l2 x (y + 1)) (lc l l2 (x + 1) y)
theorem lc_0 (l l2 : List Nat) (y : Nat) : lc l l2 0 y = 0 := by rw [lc]
theorem lc_00 (l l2 : List Nat) (x : Nat) : lc l l2 x 0 = 0 := by
  cases x with
  | zero => rw [lc]
  | succ x => rw [lc]
theorem lc_s (l l2 : List Nat) (x y : Nat) : lc l l2 (x + 1) (y + 1) = if l.getD x 0 = l2.getD y 0 then lc l l2 x y + 1 else max (lc l l2 x (y + 1)) (lc l l2 (x + 1) y) := by rw [lc]
def lcU (l l2 : List Nat) (x y : Nat) : Prop := lc l l2 x y ≤ lc l l2 (x + 1) y ∧ lc l l2 (x + 1) y ≤ lc l l2 x y + 1
def lcV (l l2 : List Nat) (x y : Nat) : Prop := lc l l2 x y ≤ lc l l2 x (y + 1) ∧ lc l l2 x (y + 1) ≤ lc l l2 x y + 1
theorem lcU_of {l l2 : List Nat} {x : Nat} (hV : ∀ y, lcV l l2 x y) : ∀ y, lcU l l2 x y
  | 0 => by unfold lcU; rw [lc_00, lc_00]; omega
  | y + 1 => by
    have u := lcU_of hV y
    have v := hV y
    unfold lcU lcV at *
    rw [lc_s]
    split
    · omega
    · omega
theorem lcV_all (l l2 : List Nat) : ∀ x y, lcV l l2 x y
  | 0, y => by unfold lcV; rw [lc_0, lc_0]; omega
  | x + 1, y => by
    have hV := lcV_all l l2 x
    have u := lcU_of hV y
    have v := hV y
    unfold lcU lcV at *
    rw [lc_s]
    split
    · omega
    · omega
theorem lc_le (l l2 : List Nat) : ∀ x y, lc l l2 x y ≤ x
  | 0, y => by rw [lc_0]; omega
  | x + 1, y => by
    have := lc_le l l2 x y
    have u := (lcU_of (lcV_all l l2 x) y).2
    omega
section
variable {numbers cells rows sizes rooms images numbers2 cells2 rows2 sizes2 rooms2 : Nat → Int32} {kn a kn2 a2 : Nat} {l l2 : List Nat} {rm rm2 : Nat} {nb nb2 : Nat → Int} {i j : Nat}
theorem cCom_in (h : VW numbers cells rows sizes rooms (fun q => images (27 * i + q)) kn a l rm nb) (h2 : VW numbers2 cells2 rows2 sizes2 rooms2 (fun q => images (27 * j + q)) kn2 a2 l2 rm2 nb2) {x : Nat} (hx : x < l.length) (k7 : (Nat → Int32) → (Nat → Int32) → Int32 → (Nat → Int32) → (Nat → Int32) → Int32 → (Nat → Int32) → Int32 → Option Int32) : ∀ (k n y : Nat) (be : Nat → Int32), y + k = l2.length → k < n → (∀ q, q ≤ y → be q = nI (lc l l2 (x + 1) q)) → (∀ q, y < q → q ≤ l2.length → be q = nI (lc l l2 x q)) → ∃ be2, fX1_longestCommon_21 k7 n rows sizes (nI a) rows2 sizes2 (nI a2) be (nI x) (nI (lc l l2 x y)) (nI (y + 1)) = k7 rows sizes (nI a) rows2 sizes2 (nI a2) be2 (nI (x + 1)) ∧ ∀ q, q ≤ l2.length → be2 q = nI (lc l l2 (x + 1) q) := by
  have l8 := h.len
  have l82 := h2.len
  intro k
  induction k with
  | zero =>
    intro n y be hy hn h1 h3
    obtain ⟨n, rfl, -⟩ := succ_of hn
    exact ⟨be, by rw [fX1_longestCommon_21, h2.plies, Option.bind_some, if_lt_y (by omega) (by omega), fX1_longestCommon_103, nI_s], fun q hq => h1 q (by omega)⟩
  | succ k ih =>
    intro n y be hy hn h1 h3
    obtain ⟨n, rfl, hn'⟩ := succ_of hn
    have b1 := lc_le l l2 x y
    have b2 := lc_le l l2 x (y + 1)
    have b3 := lc_le l l2 (x + 1) y
    have g1 := getD_lt12 h.R x
    have g2 := getD_lt12 h2.R y
    have e1 : nI (y + 1) - 1 = nI y := by rw [lit_nI1, nI_sub (by omega)]; rfl
    have st : ∀ z, z = nI (lc l l2 (x + 1) (y + 1)) → ∃ be2, fX1_longestCommon_92 k7 (fX1_longestCommon_21 k7 n) rows sizes (nI a) rows2 sizes2 (nI a2) be (nI x) (nI (y + 1)) (nI (lc l l2 x (y + 1))) (nI (y + 1)) z = k7 rows sizes (nI a) rows2 sizes2 (nI a2) be2 (nI (x + 1)) ∧ ∀ q, q ≤ l2.length → be2 q = nI (lc l l2 (x + 1) q) := by
      intro z hz
      rw [fX1_longestCommon_92, chkN (by omega) (by omega), nI_clamp' (by omega), nI_s]
      refine ih n (y + 1) _ (by omega) (by omega) (fun q hq => ?_) (fun q hq hq2 => ?_)
      · by_cases e : q = y + 1
        · rw [e, upd_same, hz]
        · rw [upd_ne _ _ e]; exact h1 q (by omega)
      · rw [upd_ne _ _ (by omega)]; exact h3 q (by omega) hq2
    rw [fX1_longestCommon_21, h2.plies, Option.bind_some, if_lt_n (by omega) (by omega), lit_nI8, if_lt_n (by omega) (by omega), chkN (by omega) (by omega), nI_clamp' (by omega), h3 (y + 1) (by omega) (by omega), h.type (by omega), Option.bind_some, e1, h2.type (by omega), Option.bind_some]
    have ls := lc_s l l2 x y
    by_cases d : l.getD x 0 = l2.getD y 0
    · rw [if_pos d] at ls
      rw [if_eq_y d, fX1_longestCommon_64, if_neg (by decide), nI_s]
      exact st _ (by rw [ls])
    · rw [if_neg d] at ls
      rw [if_eq_n d (by omega) (by omega), fX1_longestCommon_64, if_pos rfl, e1, chkN (by omega) (by omega), nI_clamp' (by omega), h1 y (by omega), imax_nI (by omega) (by omega)]
      exact st _ (by rw [ls])
theorem cCom_loop (h : VW numbers cells rows sizes rooms (fun q => images (27 * i + q)) kn a l rm nb) (h2 : VW numbers2 cells2 rows2 sizes2 rooms2 (fun q => images (27 * j + q)) kn2 a2 l2 rm2 nb2) : ∀ (k n x : Nat) (be : Nat → Int32), x + k = l.length → k < n → (∀ q, q ≤ l2.length → be q = nI (lc l l2 x q)) → fX1_longestCommon_7 n rows sizes (nI a) rows2 sizes2 (nI a2) be (nI x) = some (nI (lc l l2 l.length l2.length)) := by
  have l8 := h.len
  have l82 := h2.len
  intro k
  induction k with
  | zero =>
    intro n x be hx hn hb
    obtain ⟨n, rfl, -⟩ := succ_of hn
    rw [fX1_longestCommon_7, h.plies, Option.bind_some, if_le_y (by omega) (by omega), fX1_longestCommon_109, h2.plies, Option.bind_some, lit_nI8, imin_nI (by omega) (by omega), Nat.min_eq_left l82, chkN (by omega) (by omega), nI_clamp' (by omega), hb _ (by omega), show x = l.length by omega]
  | succ k ih =>
    intro n x be hx hn hb
    obtain ⟨n, rfl, hn'⟩ := succ_of hn
    obtain ⟨be2, e1, e2⟩ := cCom_in h h2 (x := x) (by omega) (fX1_longestCommon_7 n) l2.length FU 0 be (by omega) (FU_gt (by omega)) (fun q hq => by rw [show q = 0 by omega, hb 0 (by omega), lc_00, lc_00]) (fun q _ hq => hb q hq)
    rw [lc_00] at e1
    rw [fX1_longestCommon_7, h.plies, Option.bind_some, if_le_n (by omega) (by omega), show fX1_longestCommon_21 (fX1_longestCommon_7 n) FU rows sizes (nI a) rows2 sizes2 (nI a2) be (nI x) 0 1 = _ from e1]
    exact ih n (x + 1) be2 (by omega) (by omega) e2
theorem cCom (h : VW numbers cells rows sizes rooms (fun q => images (27 * i + q)) kn a l rm nb) (h2 : VW numbers2 cells2 rows2 sizes2 rooms2 (fun q => images (27 * j + q)) kn2 a2 l2 rm2 nb2) : fX1_longestCommon rows sizes (nI a) rows2 sizes2 (nI a2) = some (nI (lc l l2 l.length l2.length)) := by
  have := cCom_loop h h2 l.length FU 0 (fun _ => 0) (by omega) (FU_gt (by have := h.len; omega)) (fun q _ => by rw [lc_0]; rfl)
  rw [fX1_longestCommon]
  exact this
theorem idx9 {x y : Nat} : (9 * nI x) + nI y = nI (9 * x + y) := by rw [lit_nI9, nI_mul, nI_add]
theorem mCom_in (h : VW numbers cells rows sizes rooms (fun q => images (27 * i + q)) kn a l rm nb) (h2 : VW numbers2 cells2 rows2 sizes2 rooms2 (fun q => images (27 * j + q)) kn2 a2 l2 rm2 nb2) (hi : i < 3) (hj : j < 3) {x : Nat} (hx : x ≤ l.length) (k2 : (Nat → Int32) → (Nat → Int32) → Int32 → Int32 → Int32 → Option (Int32 × (Nat → Int32))) : ∀ (k n y : Nat) (tb : Nat → Int32), y + k = l2.length + 1 → k < n → (∀ x' y', y' ≤ l2.length → (x' < x ∨ (x' = x ∧ y' < y)) → tb (9 * x' + y') = nI (lc l l2 x' y')) → ∃ tb2, fX8_commonOf_14 k2 n images tb (nI i) (nI j) (nI x) (nI y) = k2 images tb2 (nI i) (nI j) (nI (x + 1)) ∧ ∀ x' y', y' ≤ l2.length → x' < x + 1 → tb2 (9 * x' + y') = nI (lc l l2 x' y') := by
  have l8 := h.len
  have l82 := h2.len
  intro k
  induction k with
  | zero =>
    intro n y tb hy hn hb
    obtain ⟨n, rfl, -⟩ := succ_of hn
    exact ⟨tb, by rw [fX8_commonOf_14, h2.manyIn hj, Option.bind_some, if_lt_y (by omega) (by omega), fX8_commonOf_139, nI_s], fun x' y' h1 h3 => hb x' y' h1 (by omega)⟩
  | succ k ih =>
    intro n y tb hy hn hb
    obtain ⟨n, rfl, hn'⟩ := succ_of hn
    have st : ∀ z, z = nI (lc l l2 x y) → ∃ tb2, fX8_commonOf_119 k2 (fX8_commonOf_14 k2 n) images tb (nI i) (nI j) (nI x) (nI y) z = k2 images tb2 (nI i) (nI j) (nI (x + 1)) ∧ ∀ x' y', y' ≤ l2.length → x' < x + 1 → tb2 (9 * x' + y') = nI (lc l l2 x' y') := by
      intro z hz
      rw [fX8_commonOf_119, idx9, chkN (by omega) (by omega), nI_clamp' (by omega), nI_s]
      refine ih n (y + 1) _ (by omega) (by omega) (fun x' y' h1 h3 => ?_)
      by_cases e : x' = x ∧ y' = y
      · rw [e.1, e.2, upd_same, hz]
      · rw [upd_ne _ _ (by omega)]; exact hb x' y' h1 (by omega)
    rw [fX8_commonOf_14, h2.manyIn hj, Option.bind_some, if_lt_n (by omega) (by omega), lit_nI0]
    by_cases c1 : x = 0
    · rw [if_le_y (by omega) (by omega)]
      exact st _ (by rw [c1, lc_0])
    · rw [if_le_n (by omega) (by omega)]
      by_cases c2 : y = 0
      · rw [if_le_y (by omega) (by omega)]
        exact st _ (by rw [c2, lc_00])
      · obtain ⟨x, rfl⟩ : ∃ z, x = z + 1 := ⟨x - 1, by omega⟩
        obtain ⟨y, rfl⟩ : ∃ z, y = z + 1 := ⟨y - 1, by omega⟩
        have g1 := getD_lt12 h.R x
        have g2 := getD_lt12 h2.R y
        have i1 : ((9 * nI (x + 1)) - 9) + nI (y + 1) = nI (9 * x + (y + 1)) := by rw [lit_nI9, nI_mul, nI_sub (by omega), nI_add]; congr 1
        have i2 : ((9 * nI (x + 1)) + nI (y + 1)) - 1 = nI (9 * (x + 1) + y) := by rw [idx9, lit_nI1, nI_sub (by omega)]; congr 1
        have b1 := lc_le l l2 x y
        have b2 := lc_le l l2 x (y + 1)
        have b3 := lc_le l l2 (x + 1) y
        have u := (lcU_of (lcV_all l l2 x) y).2
        have v := (lcV_all l l2 x y).2
        have ls := lc_s l l2 x y
        rw [if_le_n (by omega) (by omega), i1, i2, chkN (by omega) (by omega), chkN (by omega) (by omega), nI_clamp' (by omega), nI_clamp' (by omega), hb x (y + 1) (by omega) (by omega), hb (x + 1) y (by omega) (by omega), show nI (x + 1) - 1 = nI x by rw [lit_nI1, nI_sub (by omega)]; rfl, h.typeIn hi (by omega), Option.bind_some, show nI (y + 1) - 1 = nI y by rw [lit_nI1, nI_sub (by omega)]; rfl, h2.typeIn hj (by omega), Option.bind_some, imax_nI (by omega) (by omega)]
        by_cases d : l.getD x 0 = l2.getD y 0
        · have i3 : ((9 * nI (x + 1)) - 10) + nI (y + 1) = nI (9 * x + y) := by
            have : (9 * nI (x + 1)) - 10 = i32 (9 * (x : Int) - 1) := by
              rw [show (9 : Int32) = i32 9 from rfl, show (10 : Int32) = i32 10 from rfl, nI_i32, ← i32_mul, ← i32_sub]
              congr 1
              omega
            rw [this, nI_i32, nI_i32, ← i32_add]
            congr 1
            omega
          rw [if_pos d] at ls
          rw [if_eq_y d, i3, chkN (by omega) (by omega), nI_clamp' (by omega), hb x y (by omega) (by omega), nI_s, imax_nI (by omega) (by omega), fX8_commonOf_117]
          exact st _ (by rw [ls]; congr 1; omega)
        · rw [if_neg d] at ls
          rw [if_eq_n d (by omega) (by omega), fX8_commonOf_117]
          exact st _ (by rw [ls])
theorem mCom_loop (h : VW numbers cells rows sizes rooms (fun q => images (27 * i + q)) kn a l rm nb) (h2 : VW numbers2 cells2 rows2 sizes2 rooms2 (fun q => images (27 * j + q)) kn2 a2 l2 rm2 nb2) (hi : i < 3) (hj : j < 3) : ∀ (k n x : Nat) (tb : Nat → Int32), x + k = l.length + 1 → k < n → (∀ x' y', y' ≤ l2.length → x' < x → tb (9 * x' + y') = nI (lc l l2 x' y')) → ∃ tb2, fX8_commonOf_2 n images tb (nI i) (nI j) (nI x) = some (nI (lc l l2 l.length l2.length), tb2) := by
  have l8 := h.len
  have l82 := h2.len
  intro k
  induction k with
  | zero =>
    intro n x tb hx hn hb
    obtain ⟨n, rfl, -⟩ := succ_of hn
    exact ⟨tb, by rw [fX8_commonOf_2, h.manyIn hi, Option.bind_some, if_lt_y (by omega) (by omega), fX8_commonOf_145, h.manyIn hi, Option.bind_some, h2.manyIn hj, Option.bind_some, idx9, chkN (by omega) (by omega), nI_clamp' (by omega), hb _ _ (by omega) (by omega)]⟩
  | succ k ih =>
    intro n x tb hx hn hb
    obtain ⟨n, rfl, hn'⟩ := succ_of hn
    obtain ⟨tb2, e1, e2⟩ := mCom_in h h2 hi hj (x := x) (by omega) (fX8_commonOf_2 n) (l2.length + 1) FU 0 tb (by omega) (FU_gt (by omega)) (fun x' y' h1 h3 => hb x' y' h1 (by omega))
    rw [fX8_commonOf_2, h.manyIn hi, Option.bind_some, if_lt_n (by omega) (by omega), show fX8_commonOf_14 (fX8_commonOf_2 n) FU images tb (nI i) (nI j) (nI x) 0 = _ from e1]
    exact ih n (x + 1) tb2 (by omega) (by omega) e2
theorem mCom (h : VW numbers cells rows sizes rooms (fun q => images (27 * i + q)) kn a l rm nb) (h2 : VW numbers2 cells2 rows2 sizes2 rooms2 (fun q => images (27 * j + q)) kn2 a2 l2 rm2 nb2) (hi : i < 3) (hj : j < 3) (tb : Nat → Int32) : ∃ tb2, fX8_commonOf images tb (nI i) (nI j) = some (nI (lc l l2 l.length l2.length), tb2) := by
  obtain ⟨tb2, e⟩ := mCom_loop h h2 hi hj (l.length + 1) FU 0 tb (by omega) (FU_gt (by have := h.len; omega)) (fun x' y' _ h3 => absurd h3 (by omega))
  exact ⟨tb2, by rw [fX8_commonOf]; exact e⟩
end
/-! turned -/
def twL (l : List Nat) (w : Nat) : List Nat := if w < 4 then l.map (wh (w % 4)) else (ovL l).map (wh (w % 4))
def twF (l l2 : List Nat) : Nat → Nat → Nat
  | 0, _ => 99
  | k + 1, w => if twL l w = l2 then w else twF l l2 k (w + 1)
theorem twL_len (l : List Nat) (w : Nat) : (twL l w).length = l.length := by
  unfold twL
  split
  · rw [List.length_map]
  · rw [List.length_map, ovL_len]
theorem twL_R {l : List Nat} (h : R16 l) (w : Nat) : R16 (twL l w) := by
  refine ⟨fun t ht => ?_, by rw [twL_len]; exact h.2⟩
  unfold twL at ht
  split at ht
  · obtain ⟨x, hx, rfl⟩ := List.mem_map.mp ht
    exact wh_lt (kn := 3) (h.1 x hx)
  · obtain ⟨x, hx, rfl⟩ := List.mem_map.mp ht
    exact wh_lt (kn := 3) ((ovL_R h).1 x hx)
def twSrc (l : List Nat) (w : Nat) : List Nat := if w < 4 then l else ovL l
theorem twL_src (l : List Nat) (w : Nat) : twL l w = (twSrc l w).map (wh (w % 4)) := by
  unfold twL twSrc
  split <;> rfl
def eqFrom (l l2 : List Nat) : Nat → Nat → Bool
  | 0, _ => true
  | k + 1, p => (l.getD p 0 == l2.getD p 0) && eqFrom l l2 k (p + 1)
theorem eqFrom_iff (l l2 : List Nat) : ∀ k p, eqFrom l l2 k p = true ↔ ∀ q, p ≤ q → q < p + k → l.getD q 0 = l2.getD q 0
  | 0, p => ⟨fun _ q h1 h2 => by omega, fun _ => rfl⟩
  | k + 1, p => by
    rw [eqFrom, Bool.and_eq_true, beq_iff_eq, eqFrom_iff l l2 k (p + 1)]
    constructor
    · intro h q h1 h2
      by_cases e : q = p
      · rw [e]; exact h.1
      · exact h.2 q (by omega) (by omega)
    · intro h
      exact ⟨h p (by omega) (by omega), fun q h1 h2 => h q (by omega) (by omega)⟩
section
variable {numbers cells rows sizes rooms mem images numbers2 cells2 rows2 sizes2 rooms2 : Nat → Int32} {kn a kn2 a2 : Nat} {l l2 : List Nat} {rm rm2 : Nat} {nb nb2 : Nat → Int} {j : Nat}
theorem mTur_in (h : VW numbers cells rows sizes rooms mem kn a l rm nb) (h2 : VW numbers2 cells2 rows2 sizes2 rooms2 (fun q => images (27 * j + q)) kn2 a2 l2 rm2 nb2) (hj : j < 3) (hl : l.length = l2.length) {w : Nat} (hw : w < 8) (k31 : (Nat → Int32) → (Nat → Int32) → Int32 → Int32 → Option Int32) : ∀ (k n p : Nat) (b : Bool), p + k = l.length → k < n → fX8_turned_60 k31 n mem images (nI j) (nI w) (b32 b) (nI p) = fX8_turned_127 k31 mem images (nI j) (nI w) (b32 (b && eqFrom (twL l w) l2 k p)) := by
  have l8 := h.len
  intro k
  induction k with
  | zero =>
    intro n p b hp hn
    obtain ⟨n, rfl, -⟩ := succ_of hn
    rw [fX8_turned_60, h.m2, if_le_y (by omega) (by omega), eqFrom, Bool.and_true]
  | succ k ih =>
    intro n p b hp hn
    obtain ⟨n, rfl, hn'⟩ := succ_of hn
    rw [fX8_turned_60, h.m2, if_le_n (by omega) (by omega)]
    cases b with
    | false => rw [if_pos (show b32 false = 0 from rfl), Bool.false_and]
    | true =>
      rw [if_neg (show ¬ b32 true = 0 by decide), eqFrom, Bool.true_and]
      have gs : (twSrc l w).getD p 0 < 12 := by
        unfold twSrc
        split
        · exact getD_lt12 h.R p
        · exact getD_lt12 (ovL_R h.R) p
      have ls : (twSrc l w).length = l.length := by
        unfold twSrc
        split
        · rfl
        · exact ovL_len l
      have g2 := getD_lt12 h2.R p
      have gw := getD_lt12 (twL_R h.R w) p
      have et : (twL l w).getD p 0 = wh (w % 4) ((twSrc l w).getD p 0) := by rw [twL_src, getD_map (by omega)]
      have st : fX8_turned_99 k31 (fX8_turned_60 k31 n) mem images (nI j) (nI w) (nI p) (nI ((twSrc l w).getD p 0)) = fX8_turned_127 k31 mem images (nI j) (nI w) (b32 ((twL l w).getD p 0 == l2.getD p 0 && eqFrom (twL l w) l2 k (p + 1))) := by
        rw [fX8_turned_99, lit_nI4, irem_nI (by omega) (by omega) (by omega), whM gs (Nat.mod_lt _ (by omega)), Option.bind_some, h2.typeIn hj (by omega), Option.bind_some, ← et]
        simp only [fX8_turned_120, nI_s]
        by_cases d : (twL l w).getD p 0 = l2.getD p 0
        · rw [if_eq_y d, beq_iff_eq.mpr d, show (1 : Int32) = b32 true from rfl, ih n (p + 1) true (by omega) (by omega)]
        · rw [if_eq_n d (by omega) (by omega), beq_eq_false_iff_ne.mpr d, show (0 : Int32) = b32 false from rfl, ih n (p + 1) false (by omega) (by omega), Bool.false_and]
      by_cases c : w < 4
      · rw [lit_nI4, if_le_n (by omega) (by omega), chk19 (by omega), clamp19 (by omega), h.mt p (by omega)]
        have e : twSrc l w = l := if_pos c
        rw [e] at st
        exact st
      · rw [lit_nI4, if_le_y (by omega) (by omega), h.upsetAt (by omega), Option.bind_some]
        have e : twSrc l w = ovL l := if_neg c
        rw [e] at st
        exact st
theorem mTur_loop (h : VW numbers cells rows sizes rooms mem kn a l rm nb) (h2 : VW numbers2 cells2 rows2 sizes2 rooms2 (fun q => images (27 * j + q)) kn2 a2 l2 rm2 nb2) (hj : j < 3) (hl : l.length = l2.length) : ∀ (k n w : Nat), w + k = 8 → k < n → fX8_turned_31 n mem images (nI j) (nI w) = some (rI (twF l l2 k w)) := by
  have l8 := h.len
  intro k
  induction k with
  | zero =>
    intro n w hw hn
    obtain ⟨n, rfl, -⟩ := succ_of hn
    rw [fX8_turned_31, lit_nI8, if_le_y (by omega) (by omega), twF]
    rfl
  | succ k ih =>
    intro n w hw hn
    obtain ⟨n, rfl, hn'⟩ := succ_of hn
    have e := mTur_in h h2 hj hl (w := w) (by omega) (fX8_turned_31 n) l.length FU 0 true (by omega) (FU_gt (by omega))
    rw [fX8_turned_31, lit_nI8, if_le_n (by omega) (by omega), h2.manyIn hj, Option.bind_some, h.m2, if_eq_y hl.symm, fX8_turned_56, show fX8_turned_60 (fX8_turned_31 n) FU mem images (nI j) (nI w) 1 0 = _ from e, fX8_turned_127, Bool.true_and, nI_s, twF]
    by_cases d : twL l w = l2
    · have q : eqFrom (twL l w) l2 l.length 0 = true := (eqFrom_iff _ _ _ _).mpr (fun q _ _ => by rw [d])
      rw [q, if_neg (show ¬ b32 true = 0 by decide), if_pos d, rI, if_neg (by omega)]
    · have q : eqFrom (twL l w) l2 l.length 0 = false := Bool.eq_false_iff.mpr (fun q => d (ext_getD (by rw [twL_len]; exact hl) (fun p hp => (eqFrom_iff _ _ _ _).mp q p (by omega) (by omega))))
      rw [q, if_pos (show b32 false = 0 from rfl), if_neg d, ih n (w + 1) (by omega) (by omega)]
theorem mTur_no (h : VW numbers cells rows sizes rooms mem kn a l rm nb) (h2 : VW numbers2 cells2 rows2 sizes2 rooms2 (fun q => images (27 * j + q)) kn2 a2 l2 rm2 nb2) (hj : j < 3) (hl : ¬ l2.length = l.length) : ∀ (k n w : Nat), w + k = 8 → k < n → fX8_turned_31 n mem images (nI j) (nI w) = some (-1) := by
  have l8 := h.len
  have l82 := h2.len
  intro k
  induction k with
  | zero =>
    intro n w hw hn
    obtain ⟨n, rfl, -⟩ := succ_of hn
    rw [fX8_turned_31, lit_nI8, if_le_y (by omega) (by omega)]
  | succ k ih =>
    intro n w hw hn
    obtain ⟨n, rfl, hn'⟩ := succ_of hn
    obtain ⟨f, hf⟩ := FU_10
    have e : fX8_turned_60 (fX8_turned_31 n) FU mem images (nI j) (nI w) 0 0 = fX8_turned_127 (fX8_turned_31 n) mem images (nI j) (nI w) 0 := by
      rw [show fX8_turned_60 (fX8_turned_31 n) FU = fX8_turned_60 (fX8_turned_31 n) (f + 9 + 1) by rw [hf], fX8_turned_60, if_pos rfl]
      split <;> rfl
    rw [fX8_turned_31, lit_nI8, if_le_n (by omega) (by omega), h2.manyIn hj, Option.bind_some, h.m2, if_eq_n hl (by omega) (by omega), fX8_turned_56, e, fX8_turned_127, if_pos rfl, nI_s, ih n (w + 1) (by omega) (by omega)]
theorem cTur_loop (h : VW numbers cells rows sizes rooms mem kn a l rm nb) (hR2 : R16 l2) (hl : l.length = l2.length) {r0 r1 r2 : Nat → Int32} {a0 a1 a2 v1 : Int32} (hs : ∀ (k73 : (Nat → Int32) → Int32 → (Nat → Int32) → Int32 → (Nat → Int32) → Int32 → (Nat → Int32) → Int32 → Int32 → Int32 → Int32 → Int32 → Option Int32) (v2 v3 v4 z : Int32), fX7_turned_98 k73 rows (nI a) r0 a0 r1 a1 r2 a2 v1 v2 v3 v4 z = (fX3_whirled z v2 (irem v4 4)).bind fun r92 => (if r92 = pk l2 then some v4 else k73 rows (nI a) r0 a0 r1 a1 r2 a2 v1 v2 v3 (v4 + 1))) : ∀ (k n w : Nat), w + k = 8 → k < n → fX7_turned_74 n rows (nI a) r0 a0 r1 a1 r2 a2 v1 (nI l.length) (pk (ovL l)) (nI w) = some (rI (twF l l2 k w)) := by
  have l8 := h.len
  intro k
  induction k with
  | zero =>
    intro n w hw hn
    obtain ⟨n, rfl, -⟩ := succ_of hn
    rw [fX7_turned_74, lit_nI8, if_le_y (by omega) (by omega), twF]
    rfl
  | succ k ih =>
    intro n w hw hn
    obtain ⟨n, rfl, hn'⟩ := succ_of hn
    have key : ((fX3_whirled (pk (twSrc l w)) (nI l.length) (irem (nI w) 4)).bind fun r92 => (if r92 = pk l2 then some (nI w) else fX7_turned_74 n rows (nI a) r0 a0 r1 a1 r2 a2 v1 (nI l.length) (pk (ovL l)) (nI w + 1))) = some (rI (twF l l2 (k + 1) w)) := by
      have hRs : R16 (twSrc l w) := by
        unfold twSrc
        split
        · exact h.R
        · exact ovL_R h.R
      have ls : (twSrc l w).length = l.length := by
        unfold twSrc
        split
        · rfl
        · exact ovL_len l
      rw [lit_nI4, irem_nI (by omega) (by omega) (by omega), ← ls, whC hRs (Nat.mod_lt _ (by omega)), Option.bind_some, ← twL_src, ls, nI_s, ih n (w + 1) (by omega) (by omega), twF]
      by_cases d : twL l w = l2
      · rw [if_pos (by rw [d]), if_pos d, rI, if_neg (by omega)]
      · rw [if_neg (fun q => d (pk_inj (twL_R h.R w).lt hR2.lt (by rw [twL_len]; exact hl) (by rw [twL_len]; exact l8) q)), if_neg d]
    rw [fX7_turned_74, lit_nI8, if_le_n (by omega) (by omega), lit_nI4]
    by_cases c : w < 4
    · rw [if_le_n (by omega) (by omega), h.row, Option.bind_some, hs]
      rw [show twSrc l w = l from if_pos c] at key
      exact key
    · rw [if_le_y (by omega) (by omega), hs]
      rw [show twSrc l w = ovL l from if_neg c] at key
      exact key
end
/-! copies -/
theorem PNt.congr {numbers cells rows sizes rooms mem past mem2 past2 : Nat → Int32} {told lines kinds acts acted acted2 : Int32} (h : PNt numbers cells rows sizes rooms told lines kinds acts mem acted past) (ha : acted2 = acted) (hm : ∀ q, q < 27 → mem2 q = mem q) (hp : ∀ a, acted = nI a → a ≤ 30 → ∀ q, q < 27 * a → past2 q = past q) : PNt numbers cells rows sizes rooms told lines kinds acts mem2 acted2 past2 := by
  obtain ⟨kn, a, ln, h1, h2, h3, h4, h5, h6, h7, h8, h9, h10, h11⟩ := h
  exact ⟨kn, a, ln, h1, h2, h3, ha.trans h4, h5, h6, h7, h8, h9, fun j hj => Snap.congr h9.1 (fun k hk => hp a h4 h5 _ (by omega)) (h10 j hj), Snap.congr h9.1 hm h11⟩
theorem zb1 {β : Type} {t : Option β} : zb 1 t = t := if_pos (Or.inr rfl)
theorem mImg_loop {mem past iA iP hI : Nat → Int32} {acted : Int32} {k0 : Nat} (hk : k0 < 3) : ∀ (k n i : Nat) (im : Nat → Int32), i + k = 27 → k < n → fX8_image_19 n mem acted past im iA iP hI (nI k0) (nI i) = fX8_image_48 acted past (kp mem im k0 i) iA iP hI (nI k0) := by
  intro k
  induction k with
  | zero =>
    intro n i im hi hn
    obtain ⟨n, rfl, -⟩ := succ_of hn
    rw [fX8_image_19, lit_nI27, if_le_y (by omega) (by omega)]
    congr 1
    funext q
    unfold kp
    rw [if_neg (by omega)]
  | succ k ih =>
    intro n i im hi hn
    obtain ⟨n, rfl, hn'⟩ := succ_of hn
    rw [fX8_image_19, lit_nI27, if_le_n (by omega) (by omega), nI_mul, nI_add, nI_s, chkN (by omega) (by omega), chkN (by omega) (by omega), nI_clamp' (by omega), nI_clamp' (by omega), ih n (i + 1) _ (by omega) (by omega)]
    congr 1
    funext q
    unfold kp
    by_cases e : q = 27 * k0 + i
    · subst e
      rw [if_neg (by omega), if_pos (by omega), upd_same]
      congr 1
      omega
    · by_cases c : 27 * k0 + i ≤ q ∧ q < 27 * k0 + 27
      · rw [if_pos (by omega), if_pos c]
      · rw [if_neg (by omega), if_neg c, upd_ne _ _ e]
def ip (past iP : Nat → Int32) (k0 a i : Nat) : Nat → Int32 := fun q => if 810 * k0 + i ≤ q ∧ q < 810 * k0 + 27 * a then past (q - 810 * k0) else iP q
theorem mImg2_loop {past im iA hI : Nat → Int32} {k0 a : Nat} (hk : k0 < 3) (ha : a ≤ 30) : ∀ (k n i : Nat) (iP : Nat → Int32), i + k = 27 * a → k < n → fX8_image_50 n (nI a) past im iA iP hI (nI k0) (nI i) = fX8_image_85 (nI a) im iA (ip past iP k0 a i) hI (nI k0) := by
  intro k
  induction k with
  | zero =>
    intro n i iP hi hn
    obtain ⟨n, rfl, -⟩ := succ_of hn
    rw [fX8_image_50, lit_nI27, nI_mul, if_le_y (by omega) (by omega)]
    congr 1
    funext q
    unfold ip
    rw [if_neg (by omega)]
  | succ k ih =>
    intro n i iP hi hn
    obtain ⟨n, rfl, hn'⟩ := succ_of hn
    rw [fX8_image_50, lit_nI27, nI_mul, if_le_n (by omega) (by omega), show (810 : Int32) = nI 810 from rfl, nI_mul, nI_add, nI_s, chkN (by omega) (by omega), chkN (by omega) (by omega), nI_clamp' (by omega), nI_clamp' (by omega), ih n (i + 1) _ (by omega) (by omega)]
    congr 1
    funext q
    unfold ip
    by_cases e : q = 810 * k0 + i
    · subst e
      rw [if_neg (by omega), if_pos (by omega), upd_same]
      congr 1
      omega
    · by_cases c : 810 * k0 + i ≤ q ∧ q < 810 * k0 + 27 * a
      · rw [if_pos (by omega), if_pos c]
      · rw [if_neg (by omega), if_neg c, upd_ne _ _ e]
theorem mImage {mem past im iA iP hI : Nat → Int32} {k0 a : Nat} (hk : k0 < 3) (ha : a ≤ 30) (his : fX8_is mem = some 1) : fX8_image mem (nI a) past im iA iP hI (nI k0) = some (0, kp mem im k0 0, upd iA k0 (nI a), ip past iP k0 a 0, upd hI k0 1) := by
  have e0 : fX8_isImage (nI k0) = 1 := by
    rw [fX8_isImage, mIn2, if_pos]
    rw [nI_int (by omega)]
    omega
  rw [fX8_image, his, Option.bind_some, if_neg (by decide), e0, if_neg (by decide), show fX8_image_19 FU mem (nI a) past im iA iP hI (nI k0) 0 = _ from mImg_loop hk 27 FU 0 im (by omega) (FU_gt (by omega)), fX8_image_48, show fX8_image_50 FU (nI a) past (kp mem im k0 0) iA iP hI (nI k0) 0 = _ from mImg2_loop hk ha (27 * a) FU 0 iP (by omega) (FU_gt (by omega)), fX8_image_85, chkN hk (by omega), chkN hk (by omega), nI_clamp' (by omega)]
  rfl
theorem mBk_loop {im iA iP past : Nat → Int32} {acted : Int32} {k0 : Nat} (hk : k0 < 3) : ∀ (k n i : Nat) (mem : Nat → Int32), i + k = 27 → k < n → fX8_back_24 n mem acted past im iA iP (nI k0) (nI i) = fX8_back_53 (gb mem im k0 i) acted past iA iP (nI k0) := by
  intro k
  induction k with
  | zero =>
    intro n i mem hi hn
    obtain ⟨n, rfl, -⟩ := succ_of hn
    rw [fX8_back_24, lit_nI27, if_le_y (by omega) (by omega)]
    congr 1
    funext q
    unfold gb
    rw [if_neg (by omega)]
  | succ k ih =>
    intro n i mem hi hn
    obtain ⟨n, rfl, hn'⟩ := succ_of hn
    rw [fX8_back_24, lit_nI27, if_le_n (by omega) (by omega), nI_mul, nI_add, nI_s, chkN (by omega) (by omega), chkN (by omega) (by omega), nI_clamp' (by omega), nI_clamp' (by omega), ih n (i + 1) _ (by omega) (by omega)]
    congr 1
    funext q
    unfold gb
    by_cases e : q = i
    · subst e
      rw [if_neg (by omega), if_pos (by omega), upd_same]
    · by_cases c : i ≤ q ∧ q < 27
      · rw [if_pos (by omega), if_pos c]
      · rw [if_neg (by omega), if_neg c, upd_ne _ _ e]
def bp (past iP : Nat → Int32) (k0 a i : Nat) : Nat → Int32 := fun q => if i ≤ q ∧ q < 27 * a then iP (810 * k0 + q) else past q
theorem mBk2_loop {mem iP : Nat → Int32} {k0 a : Nat} (hk : k0 < 3) (ha : a ≤ 30) : ∀ (k n i : Nat) (past : Nat → Int32), i + k = 27 * a → k < n → fX8_back_65 n mem (nI a) past iP (nI k0) (nI i) = some (0, mem, nI a, bp past iP k0 a i) := by
  intro k
  induction k with
  | zero =>
    intro n i past hi hn
    obtain ⟨n, rfl, -⟩ := succ_of hn
    rw [fX8_back_65, lit_nI27, nI_mul, if_le_y (by omega) (by omega)]
    congr 4
    funext q
    unfold bp
    rw [if_neg (by omega)]
  | succ k ih =>
    intro n i past hi hn
    obtain ⟨n, rfl, hn'⟩ := succ_of hn
    rw [fX8_back_65, lit_nI27, nI_mul, if_le_n (by omega) (by omega), show (810 : Int32) = nI 810 from rfl, nI_mul, nI_add, nI_s, chkN (by omega) (by omega), chkN (by omega) (by omega), nI_clamp' (by omega), nI_clamp' (by omega), ih n (i + 1) _ (by omega) (by omega)]
    congr 4
    funext q
    unfold bp
    by_cases e : q = i
    · subst e
      rw [if_neg (by omega), if_pos (by omega), upd_same]
    · by_cases c : i ≤ q ∧ q < 27 * a
      · rw [if_pos (by omega), if_pos c]
      · rw [if_neg (by omega), if_neg c, upd_ne _ _ e]
theorem mIsImg {k0 : Nat} (hk : k0 < 3) : fX8_isImage (nI k0) = 1 := by
  rw [fX8_isImage, mIn2, if_pos]
  rw [nI_int (by omega)]
  omega
theorem mBackI {mem past im iA iP hI : Nat → Int32} {k0 a : Nat} {acted : Int32} (hk : k0 < 3) (ha : a ≤ 30) (h1 : hI k0 = 1) (h2 : iA k0 = nI a) : fX8_back mem acted past im iA iP hI (nI k0) = some (0, gb mem im k0 0, nI a, bp past iP k0 a 0) := by
  rw [fX8_back, mIsImg hk, if_neg (by decide), chkN hk (by omega), nI_clamp' (by omega), h1, if_neg (by decide), show fX8_back_24 FU mem acted past im iA iP (nI k0) 0 = _ from mBk_loop hk 27 FU 0 mem (by omega) (FU_gt (by omega)), fX8_back_53, chkN hk (by omega), nI_clamp' (by omega), h2]
  exact mBk2_loop hk ha (27 * a) FU 0 past (by omega) (FU_gt (by omega))
theorem isImg_no {x : Int32} (h : ¬ (0 ≤ x.toInt ∧ x.toInt ≤ 2)) : fX7_isImage x = some 0 ∧ fX8_isImage x = 0 := by
  refine ⟨?_, by rw [fX8_isImage, mIn2, if_neg h]⟩
  rw [fX7_isImage]
  by_cases c : x.toInt < 0
  · rw [if_pos ((lt0_iff x).mpr c)]
  · rw [if_neg (fun q => c ((lt0_iff x).mp q)), if_pos (show (3 : Int32) ≤ x from (le_nI (n := 3) (by omega)).mpr (by omega))]
theorem isImg_yes {x : Int32} (h : 0 ≤ x.toInt ∧ x.toInt ≤ 2) : ∃ k : Nat, k < 3 ∧ x = nI k := by
  obtain ⟨k, rfl, hk, -⟩ := int_nat h.1
  exact ⟨k, by omega, rfl⟩
/-- an image of the told ones in view -/
theorem PI.view {k : Nat} {numbers cells rows sizes rooms images imageActed imagePast hasImage : Nat → Int32} {told lines kinds acts : Int32} (h : PI k numbers cells rows sizes rooms told lines kinds acts images imageActed imagePast hasImage) : (told = 0 ∧ hasImage k = 0) ∨ (told = 1 ∧ hasImage k = 1 ∧ ∃ (kn a : Nat) (l : List Nat) (rm : Nat) (nb : Nat → Int), a ≤ 30 ∧ kinds = nI kn ∧ acts = nI a ∧ imageActed k = nI a ∧ VW numbers cells rows sizes rooms (fun q => images (27 * k + q)) kn a l rm nb) := by
  rcases h with h | ⟨h1, h2⟩
  · exact Or.inl h
  · obtain ⟨kn, a, l, rm, nb, e1, e2, e3, e4, e5⟩ := h2.view
    exact Or.inr ⟨e1, h1, kn, a, l, rm, nb, e5.a30, e2, e3, e4, e5⟩
theorem PI.congr {k : Nat} {numbers cells rows sizes rooms images imageActed imagePast hasImage images2 imageActed2 imagePast2 hasImage2 : Nat → Int32} {told lines kinds acts : Int32} (h : PI k numbers cells rows sizes rooms told lines kinds acts images imageActed imagePast hasImage) (h1 : hasImage2 k = hasImage k) (h2 : imageActed2 k = imageActed k) (h3 : ∀ q, q < 27 → images2 (27 * k + q) = images (27 * k + q)) (h4 : ∀ q, q < 810 → imagePast2 (810 * k + q) = imagePast (810 * k + q)) : PI k numbers cells rows sizes rooms told lines kinds acts images2 imageActed2 imagePast2 hasImage2 := by
  rcases h with h | ⟨h5, h6⟩
  · exact Or.inl ⟨h.1, h1.trans h.2⟩
  · exact Or.inr ⟨h1.trans h5, h6.congr h2 h3 (fun a _ ha q hq => h4 q (by omega))⟩
theorem PI.other {k k0 a : Nat} {numbers cells rows sizes rooms images imageActed imagePast hasImage mem past : Nat → Int32} {told lines kinds acts : Int32} (h : PI k numbers cells rows sizes rooms told lines kinds acts images imageActed imagePast hasImage) (hk : k ≠ k0) (ha : a ≤ 30) : PI k numbers cells rows sizes rooms told lines kinds acts (kp mem images k0 0) (upd imageActed k0 (nI a)) (ip past imagePast k0 a 0) (upd hasImage k0 1) := by
  refine h.congr (upd_ne _ _ hk) (upd_ne _ _ hk) (fun q hq => ?_) (fun q hq => ?_)
  · unfold kp
    rw [if_neg (by omega)]
  · unfold ip
    rw [if_neg (by omega)]
theorem PI.same {k0 a : Nat} {numbers cells rows sizes rooms images imageActed imagePast hasImage mem past : Nat → Int32} {told lines kinds acts : Int32} (h : PNt numbers cells rows sizes rooms told lines kinds acts mem (nI a) past) (ha : a ≤ 30) : PI k0 numbers cells rows sizes rooms told lines kinds acts (kp mem images k0 0) (upd imageActed k0 (nI a)) (ip past imagePast k0 a 0) (upd hasImage k0 1) := by
  refine Or.inr ⟨upd_same _ _ _, h.congr (upd_same _ _ _) (fun q hq => ?_) (fun a' e ha' q hq => ?_)⟩
  · show kp mem images k0 0 (27 * k0 + q) = mem q
    unfold kp
    rw [if_pos (by omega)]
    congr 1
    omega
  · have : a = a' := (nI_inj (by omega) (by omega)).mp e
    show ip past imagePast k0 a 0 (810 * k0 + q) = past q
    unfold ip
    rw [if_pos (by omega)]
    congr 1
    omega
theorem zz00 : (nI 0 = 0) = True := eq_true rfl
theorem zz01 : (nI 0 = 1) = False := eq_false (by decide)
theorem zz02 : (nI 0 = 2) = False := eq_false (by decide)
theorem zz10 : (nI 1 = 0) = False := eq_false (by decide)
theorem zz11 : (nI 1 = 1) = True := eq_true rfl
theorem zz12 : (nI 1 = 2) = False := eq_false (by decide)
theorem zz20 : (nI 2 = 0) = False := eq_false (by decide)
theorem zz21 : (nI 2 = 1) = False := eq_false (by decide)
theorem zz22 : (nI 2 = 2) = True := eq_true rfl
theorem ic0 : fX7_isImage (nI 0) = some 1 := by decide
theorem ic1 : fX7_isImage (nI 1) = some 1 := by decide
theorem ic2 : fX7_isImage (nI 2) = some 1 := by decide
theorem isImg_tot (x : Int32) : ∃ r, fX7_isImage x = some r := by
  by_cases c : 0 ≤ x.toInt ∧ x.toInt ≤ 2
  · obtain ⟨k, hk, rfl⟩ := isImg_yes c
    rcases (show k = 0 ∨ k = 1 ∨ k = 2 by omega) with rfl | rfl | rfl
    · exact ⟨_, ic0⟩
    · exact ⟨_, ic1⟩
    · exact ⟨_, ic2⟩
  · exact ⟨_, (isImg_no c).1⟩
theorem e60 : ((-6 : Int32) = 0) = False := eq_false (by decide)
theorem e20 : ((-2 : Int32) = 0) = False := eq_false (by decide)
theorem b32_if (b : Bool) : (if b32 b = 0 then some (0 : Int32) else some 1) = some (b32 b) := by cases b <;> rfl
theorem mWhy {hI : Nat → Int32} {i j : Nat} (hi : i < 3) (hj : j < 3) : fX8_why hI (nI i) (nI j) = if hI i = 0 then some (-6) else if hI j = 0 then some (-6) else some 0 := by
  rw [fX8_why, mIsImg hi, if_neg (by decide), mIsImg hj, if_neg (by decide), chkN hi (by omega), nI_clamp' (by omega), chkN hj (by omega), nI_clamp' (by omega)]
theorem mWhy0 {hI : Nat → Int32} {x y : Int32} (h : ¬ (0 ≤ x.toInt ∧ x.toInt ≤ 2) ∨ ¬ (0 ≤ y.toInt ∧ y.toInt ≤ 2)) : fX8_why hI x y = some (-2) := by
  rw [fX8_why]
  rcases h with h | h
  · rw [(isImg_no h).2, if_pos rfl]
  · rw [(isImg_no h).2, if_pos rfl]
    split <;> rfl
theorem cBar0 {t0 t1 t2 x y : Int32} (h : ¬ (0 ≤ x.toInt ∧ x.toInt ≤ 2) ∨ ¬ (0 ≤ y.toInt ∧ y.toInt ≤ 2)) : fX7_imagesBar t0 t1 t2 x y = some (-2) := by
  rw [fX7_imagesBar]
  rcases h with h | h
  · rw [(isImg_no h).1, Option.bind_some, if_pos rfl]
  · obtain ⟨r, hr⟩ := isImg_tot x
    rw [hr, Option.bind_some, (isImg_no h).1, Option.bind_some, if_pos rfl]
    split <;> rfl
theorem part_end {o1 : Option Int32} {o2 : Option (Int32 × (Nat → Int32))} {x y : Int32} {w : Nat → Int32} (h1 : o1 = ((if x = y then some (1 : Int32) else some 0).bind fun r6 => (if r6 = 0 then some 0 else some 1))) (h2 : o2 = if x = y then some (1, w) else some (0, w)) : ∃ (r : Int32) (o : Nat → Int32), o1 = some r ∧ o2 = some (r, o) := by
  by_cases c : x = y
  · rw [if_pos c] at h1 h2
    exact ⟨1, w, h1, h2⟩
  · rw [if_neg c] at h1 h2
    exact ⟨0, w, h1, h2⟩
