/-! even: mirrored, flat, straight, balanced -/
def mirL (l : List Nat) : Nat → Nat → Bool
  | 0, _ => true
  | k + 1, i => (l.getD i 0 == l.getD (l.length - 1 - i) 0) && mirL l k (i + 1)
theorem mirL_iff (l : List Nat) : ∀ (k i : Nat), mirL l k i = true ↔ ∀ j, i ≤ j → j < i + k → l.getD j 0 = l.getD (l.length - 1 - j) 0
  | 0, i => by
    rw [mirL]
    exact ⟨fun _ j h1 h2 => by omega, fun _ => rfl⟩
  | k + 1, i => by
    rw [mirL, Bool.and_eq_true, mirL_iff l k (i + 1), beq_iff_eq]
    constructor
    · intro h j h1 h2
      by_cases e : j = i
      · rw [e]; exact h.1
      · exact h.2 j (by omega) (by omega)
    · intro h
      exact ⟨h i (by omega) (by omega), fun j h1 h2 => h j (by omega) (by omega)⟩
theorem mir_iff (l : List Nat) : isMir l = true ↔ ∀ i, i < l.length → l.getD i 0 = l.getD (l.length - 1 - i) 0 := by
  unfold isMir
  rw [beq_iff_eq]
  constructor
  · intro e i hi
    have q : l.getD i 0 = l.reverse.getD i 0 := by rw [← e]
    rw [q, List.getD_eq_getElem?_getD, List.getElem?_reverse hi, ← List.getD_eq_getElem?_getD]
  · intro h
    apply List.ext_getElem?
    intro i
    by_cases hi : i < l.length
    · have q := h i hi
      have hj : l.length - 1 - i < l.length := by omega
      rw [List.getD_eq_getElem?_getD, List.getD_eq_getElem?_getD, List.getElem?_eq_getElem hi, List.getElem?_eq_getElem hj] at q
      rw [List.getElem?_reverse hi, List.getElem?_eq_getElem hi, List.getElem?_eq_getElem hj]
      exact congrArg some q
    · rw [List.getElem?_eq_none (by omega), List.getElem?_eq_none (by rw [List.length_reverse]; omega)]
theorem mirL_mir (l : List Nat) : mirL l l.length 0 = isMir l := by
  rw [Bool.eq_iff_iff, mirL_iff, mir_iff]
  exact ⟨fun h i hi => h i (by omega) (by omega), fun h j _ h2 => h j (by omega)⟩
theorem mirL_half (l : List Nat) : mirL l (l.length / 2) 0 = isMir l := by
  rw [Bool.eq_iff_iff, mirL_iff, mir_iff]
  constructor
  · intro h i hi
    by_cases c : i < l.length / 2
    · exact h i (by omega) (by omega)
    · by_cases d : l.length - 1 - i < l.length / 2
      · have := h (l.length - 1 - i) (by omega) (by omega)
        rw [this, show l.length - 1 - (l.length - 1 - i) = i by omega]
      · rw [show l.length - 1 - i = i by omega]
  · intro h j _ h2
    exact h j (by omega)
def b32 (b : Bool) : Int32 := if b then 1 else 0
theorem back_nI {n i : Nat} (h : i < n) : (nI n - 1) - nI i = nI (n - 1 - i) := by rw [lit_nI1, nI_sub (by omega), nI_sub (by omega)]
theorem cMir_loop {l : List Nat} (hR : R16 l) : ∀ (k n i : Nat), i + k = l.length / 2 → k < n → fX3_isMirrored_2 n (pk l) (nI l.length) (nI i) = some (b32 (mirL l k i)) := by
  have l8 := hR.2
  intro k
  induction k with
  | zero =>
    intro n i hi hn
    obtain ⟨n, rfl, -⟩ := succ_of hn
    rw [fX3_isMirrored_2, lit_nI2, idiv_nI (by omega) (by omega), if_pos ((nI_le' (by omega) (by omega)).mpr (by omega))]
    rfl
  | succ k ih =>
    intro n i hi hn
    obtain ⟨n, rfl, hn'⟩ := succ_of hn
    have g1 := getD_lt12 hR i
    have g2 := getD_lt12 hR (l.length - 1 - i)
    rw [fX3_isMirrored_2, lit_nI2, idiv_nI (by omega) (by omega), if_neg (fun q => by have := (nI_le' (by omega) (by omega)).mp q; omega), typeAt_pk hR (by omega), back_nI (by omega), typeAt_pk hR (by omega), nI_s, mirL]
    by_cases e : l.getD i 0 = l.getD (l.length - 1 - i) 0
    · rw [if_pos (by rw [e]), ih n (i + 1) (by omega) (by omega), beq_iff_eq.mpr e, Bool.true_and]
    · rw [if_neg (nI_ne e (by omega) (by omega)), beq_eq_false_iff_ne.mpr e, Bool.false_and]
      rfl
theorem cMir {l : List Nat} (hR : R16 l) : fX3_isMirrored (pk l) (nI l.length) = some (b32 (isMir l)) := by
  have l8 := hR.2
  rw [fX3_isMirrored, ← mirL_half]
  exact cMir_loop hR (l.length / 2) FU 0 (by omega) (FU_gt (by omega))
theorem mMir_loop {row : Nat → Int32} {l : List Nat} (hR : R16 l) (hr : RW row l) : ∀ (k n i : Nat), i + k = l.length → k < n → fX8_isMirrored_2 n row (nI l.length) (nI i) = some (b32 (mirL l k i)) := by
  have l8 := hR.2
  intro k
  induction k with
  | zero =>
    intro n i hi hn
    obtain ⟨n, rfl, -⟩ := succ_of hn
    rw [fX8_isMirrored_2, if_pos ((nI_le' (by omega) (by omega)).mpr (by omega))]
    rfl
  | succ k ih =>
    intro n i hi hn
    obtain ⟨n, rfl, hn'⟩ := succ_of hn
    have g1 := getD_lt12 hR i
    have g2 := getD_lt12 hR (l.length - 1 - i)
    rw [fX8_isMirrored_2, if_neg (fun q => by have := (nI_le' (by omega) (by omega)).mp q; omega), back_nI (by omega), chkN (by omega) (by omega), chkN (by omega) (by omega), nI_clamp' (by omega), nI_clamp' (by omega), hr i (by omega), hr _ (by omega), nI_s, mirL]
    by_cases e : l.getD i 0 = l.getD (l.length - 1 - i) 0
    · rw [if_pos (by rw [e]), ih n (i + 1) (by omega) (by omega), beq_iff_eq.mpr e, Bool.true_and]
    · rw [if_neg (nI_ne e (by omega) (by omega)), beq_eq_false_iff_ne.mpr e, Bool.false_and]
      rfl
theorem mMir {row : Nat → Int32} {l : List Nat} (hR : R16 l) (hr : RW row l) : fX8_isMirrored row (nI l.length) = some (b32 (isMir l)) := by
  have l8 := hR.2
  rw [fX8_isMirrored, ← mirL_mir]
  exact mMir_loop hR hr l.length FU 0 (by omega) (FU_gt (by omega))
theorem tot_snoc (ce : Nat → Int) (n w c t : Nat) : ∀ (l : List Nat) (k : Nat), tot ce n w c k (l ++ [t]) = tot ce n w c k l + wgt w (far n (k + l.length)) * ce (9 * t + c)
  | [], k => by
    rw [List.nil_append, tot, tot, tot]
    simp
  | x :: l, k => by
    rw [List.cons_append, tot, tot, tot_snoc ce n w c t l (k + 1), List.length_cons, show k + 1 + l.length = k + (l.length + 1) by omega]
    omega
theorem tot_rev (ce : Nat → Int) (n c : Nat) : ∀ (l : List Nat) (k k' : Nat), k + k' + l.length = n → tot ce n 1 c k l.reverse = - tot ce n 1 c k' l
  | [], k, k', _ => rfl
  | t :: l, k, k', h => by
    rw [List.length_cons] at h
    rw [List.reverse_cons, tot_snoc, tot_rev ce n c l k (k' + 1) (by omega), tot, List.length_reverse]
    have e : wgt 1 (far n (k + l.length)) = - wgt 1 (far n k') := by
      show far n (k + l.length) = - far n k'
      unfold far
      omega
    rw [e, Int.neg_mul]
    omega
theorem mir_flat (ce : Nat → Int) (c : Nat) {l : List Nat} (h : isMir l = true) : tot ce l.length 1 c 0 l = 0 := by
  unfold isMir at h
  have e := beq_iff_eq.mp h
  have q := tot_rev ce l.length c l 0 0 (by omega)
  rw [← e] at q
  omega
theorem tot_congr {ce : Nat → Int} (n w : Nat) {c d : Nat} (h : ∀ t, ce (9 * t + c) = ce (9 * t + d)) : ∀ (l : List Nat) (k : Nat), tot ce n w c k l = tot ce n w d k l
  | [], _ => rfl
  | t :: l, k => by rw [tot, tot, h t, tot_congr n w h l (k + 1)]
theorem ceQ_13 (nb : Nat → Int) (t : Nat) : ceQ nb (9 * t + 3) = ceQ nb (9 * t + 1) := by rw [ceQ_at nb (by omega), ceQ_at nb (by omega)]; rfl
theorem ceQ_25 (nb : Nat → Int) (t : Nat) : ceQ nb (9 * t + 5) = ceQ nb (9 * t + 2) := by rw [ceQ_at nb (by omega), ceQ_at nb (by omega)]; rfl
theorem ceQ_26 (nb : Nat → Int) (t : Nat) : ceQ nb (9 * t + 6) = ceQ nb (9 * t + 2) := by rw [ceQ_at nb (by omega), ceQ_at nb (by omega)]; rfl
theorem ceQ_27 (nb : Nat → Int) (t : Nat) : ceQ nb (9 * t + 7) = ceQ nb (9 * t + 2) := by rw [ceQ_at nb (by omega), ceQ_at nb (by omega)]; rfl
theorem labs_i64 {z : Int} (h : -710400 ≤ z ∧ z ≤ 710400) : labs (i64 z) = i64 (z.natAbs : Int) := by
  unfold labs
  have e : ((0 : Int64) < i64 z) ↔ 0 < z := i64_lt (a := 0) (b := z) ⟨by omega, by omega⟩ ⟨by omega, by omega⟩
  by_cases c : 0 < z
  · rw [if_pos (e.mpr c)]
    congr 1
    omega
  · rw [if_neg (fun q => c (e.mp q)), ← i64_neg]
    congr 1
    omega
def wzI (f : Nat → Int) : Nat → Nat → Int → Int
  | 0, _, acc => acc
  | k + 1, c, acc => wzI f k (c + 1) (acc + ((f c).natAbs : Int))
theorem wzL_int {f : Nat → Int} (hf : ∀ c, c < 9 → -710400 ≤ f c ∧ f c ≤ 710400) : ∀ (k c : Nat) (acc : Int), c + k ≤ 9 → wzL (fun c => i64 (f c)) k c (i64 acc) = i64 (wzI f k c acc)
  | 0, _, _, _ => rfl
  | k + 1, c, acc, h => by
    rw [wzL, wzI, labs_i64 (hf c (by omega)), ← i64_add, wzL_int hf k (c + 1) _ (by omega)]
section
variable {numbers cells rows sizes rooms mem : Nat → Int32} {kn a : Nat} {l : List Nat} {rm : Nat} {nb : Nat → Int}
theorem VW.bd0 (h : VW numbers cells rows sizes rooms mem kn a l rm nb) {l2 : List Nat} (h2 : R16 l2) (h3 : ∀ t ∈ l2, t < 4 * kn) (w : Nat) {c : Nat} (hc : c < 9) : -710400 ≤ tot (ceQ nb) l2.length w c 0 l2 ∧ tot (ceQ nb) l2.length w c 0 l2 ≤ 710400 := by
  rw [← totG_0]
  exact h.tg_bd h2 h3 hc 0 w
theorem VW.tg0 (h : VW numbers cells rows sizes rooms mem kn a l rm nb) {l2 : List Nat} (h2 : R16 l2) (h3 : ∀ t ∈ l2, t < 4 * kn) (w : Nat) {c : Nat} (hc : c < 9) : lg_cmp (i64 (totG (ceQ nb) l2.length w c 0 0 l2)) 0 = 0 ↔ tot (ceQ nb) l2.length w c 0 l2 = 0 := by
  have b := h.bd0 h2 h3 w hc
  rw [lg_cmp_eq, totG_0]
  exact i64_eq (b := 0) ⟨by omega, by omega⟩ ⟨by omega, by omega⟩
theorem VW.flatC (h : VW numbers cells rows sizes rooms mem kn a l rm nb) {l2 : List Nat} (h2 : R16 l2) (h3 : ∀ t ∈ l2, t < 4 * kn) : fX1_isRowFlat cells (pk l2) (nI l2.length) = some (b32 (isFla (ceQ nb) l2)) := by
  have e : ∀ (m j c : Nat), j < 5 → c < 9 → stF 5 j = nI c → fX1_isRowFlat_11 (m + 1) cells (pk l2) (nI l2.length) 5 (nI j) = if tot (ceQ nb) l2.length 1 c 0 l2 = 0 then fX1_isRowFlat_11 m cells (pk l2) (nI l2.length) 5 (nI (j + 1)) else some 0 := by
    intro m j c hj hc hs
    rw [fX1_isRowFlat_11, lit_nI5, if_neg (fun q => by have := (nI_le' (by omega) (by omega)).mp q; omega), chkN (by omega) (by omega), nI_clamp' (by omega), hs, lit_nI0, lit_nI1, h.totOf h2 h3 (by omega) hc (by omega), Option.bind_some, nI_add]
    by_cases d : tot (ceQ nb) l2.length 1 c 0 l2 = 0
    · rw [if_pos d, ← lit_nI0, if_pos ((h.tg0 h2 h3 1 hc).mpr d)]
    · rw [if_neg d, ← lit_nI0, if_neg (fun q => d ((h.tg0 h2 h3 1 hc).mp q))]
  obtain ⟨n, hn⟩ := FU_10
  rw [fX1_isRowFlat, lit_nI0, show fX1_isRowFlat_11 FU = fX1_isRowFlat_11 (n + 5 + 1 + 1 + 1 + 1 + 1) by rw [hn], e _ 0 0 (by omega) (by omega) rfl, e _ 1 1 (by omega) (by omega) rfl, e _ 2 2 (by omega) (by omega) rfl, e _ 3 4 (by omega) (by omega) rfl, e _ 4 8 (by omega) (by omega) rfl, fX1_isRowFlat_11, if_pos (show (5 : Int32) ≤ nI (4 + 1) by decide)]
  simp only [isFla, List.all_cons, List.all_nil, Bool.and_true]
  by_cases d0 : tot (ceQ nb) l2.length 1 0 0 l2 = 0
  · by_cases d1 : tot (ceQ nb) l2.length 1 1 0 l2 = 0
    · by_cases d2 : tot (ceQ nb) l2.length 1 2 0 l2 = 0
      · by_cases d4 : tot (ceQ nb) l2.length 1 4 0 l2 = 0
        · by_cases d8 : tot (ceQ nb) l2.length 1 8 0 l2 = 0
          · rw [if_pos d0, if_pos d1, if_pos d2, if_pos d4, if_pos d8, d0, d1, d2, d4, d8]; rfl
          · rw [if_pos d0, if_pos d1, if_pos d2, if_pos d4, if_neg d8, beq_eq_false_iff_ne.mpr d8, Bool.and_false, Bool.and_false, Bool.and_false, Bool.and_false]; rfl
        · rw [if_pos d0, if_pos d1, if_pos d2, if_neg d4, beq_eq_false_iff_ne.mpr d4, Bool.false_and, Bool.and_false, Bool.and_false, Bool.and_false]; rfl
      · rw [if_pos d0, if_pos d1, if_neg d2, beq_eq_false_iff_ne.mpr d2, Bool.false_and, Bool.and_false, Bool.and_false]; rfl
    · rw [if_pos d0, if_neg d1, beq_eq_false_iff_ne.mpr d1, Bool.false_and, Bool.and_false]; rfl
  · rw [if_neg d0, beq_eq_false_iff_ne.mpr d0, Bool.false_and]; rfl
theorem VW.strC (h : VW numbers cells rows sizes rooms mem kn a l rm nb) {l2 : List Nat} (h2 : R16 l2) (h3 : ∀ t ∈ l2, t < 4 * kn) : fX1_isRowStraight cells (pk l2) (nI l2.length) = some (b32 (isStr (ceQ nb) l2)) := by
  have e0 := h.totOf h2 h3 (w := 0) (c := 2) (g := 0) (by omega) (by omega) (by omega)
  have e2 := h.totOf h2 h3 (w := 2) (c := 2) (g := 0) (by omega) (by omega) (by omega)
  rw [fX1_isRowStraight, show fX1_totalOf cells (pk l2) (nI l2.length) 0 0 2 = _ from e0, Option.bind_some, show fX1_totalOf cells (pk l2) (nI l2.length) 0 2 2 = _ from e2, Option.bind_some, isStr]
  by_cases d0 : tot (ceQ nb) l2.length 0 2 0 l2 = 0
  · rw [if_pos ((h.tg0 h2 h3 0 (by omega)).mpr d0)]
    by_cases d2 : tot (ceQ nb) l2.length 2 2 0 l2 = 0
    · rw [if_pos ((h.tg0 h2 h3 2 (by omega)).mpr d2), d0, d2]; rfl
    · rw [if_neg (fun q => d2 ((h.tg0 h2 h3 2 (by omega)).mp q)), beq_eq_false_iff_ne.mpr d2, Bool.and_false]; rfl
  · rw [if_neg (fun q => d0 ((h.tg0 h2 h3 0 (by omega)).mp q)), beq_eq_false_iff_ne.mpr d0, Bool.false_and]; rfl
theorem mir_fla (ce : Nat → Int) {l : List Nat} (h : isMir l = true) : isFla ce l = true := by
  simp only [isFla, List.all_cons, List.all_nil, mir_flat ce _ h]
  rfl
theorem VW.shape (h : VW numbers cells rows sizes rooms mem kn a l rm nb) {l2 : List Nat} (h2 : R16 l2) (h3 : ∀ t ∈ l2, t < 4 * kn) : fX1_shape cells (pk l2) (nI l2.length) = some (nI (shp (ceQ nb) l2)) := by
  rw [fX1_shape, cMir h2, Option.bind_some, shp]
  simp only [fX1_shape_13, fX1_shape_27, fX1_shape_31, h.flatC h2 h3, h.strC h2 h3, Option.bind_some]
  by_cases m : isMir l2 = true
  · rw [m, mir_fla _ m]
    cases isStr (ceQ nb) l2 <;> rfl
  · rw [Bool.not_eq_true] at m
    rw [m]
    cases isFla (ceQ nb) l2 <;> cases isStr (ceQ nb) l2 <;> rfl
theorem VW.wz0 (h : VW numbers cells rows sizes rooms mem kn a l rm nb) {l2 : List Nat} (h2 : R16 l2) (h3 : ∀ t ∈ l2, t < 4 * kn) : lg_cmp (wz (TG nb l2 0 1)) 0 = 0 ↔ isFla (ceQ nb) l2 = true := by
  have hf : ∀ c, c < 9 → -710400 ≤ tot (ceQ nb) l2.length 1 c 0 l2 ∧ tot (ceQ nb) l2.length 1 c 0 l2 ≤ 710400 := fun c hc => h.bd0 h2 h3 1 hc
  have e : TG nb l2 0 1 = fun c => i64 (tot (ceQ nb) l2.length 1 c 0 l2) := by
    funext c
    rw [TG, totG_0]
  have q3 : tot (ceQ nb) l2.length 1 3 0 l2 = tot (ceQ nb) l2.length 1 1 0 l2 := tot_congr _ _ (ceQ_13 nb) l2 0
  have q5 : tot (ceQ nb) l2.length 1 5 0 l2 = tot (ceQ nb) l2.length 1 2 0 l2 := tot_congr _ _ (ceQ_25 nb) l2 0
  have q6 : tot (ceQ nb) l2.length 1 6 0 l2 = tot (ceQ nb) l2.length 1 2 0 l2 := tot_congr _ _ (ceQ_26 nb) l2 0
  have q7 : tot (ceQ nb) l2.length 1 7 0 l2 = tot (ceQ nb) l2.length 1 2 0 l2 := tot_congr _ _ (ceQ_27 nb) l2 0
  have h0 := hf 0 (by omega)
  have h1 := hf 1 (by omega)
  have h2' := hf 2 (by omega)
  have h4 := hf 4 (by omega)
  have h8 := hf 8 (by omega)
  rw [lg_cmp_eq, e, wz, show (0 : Int64) = i64 0 from rfl, wzL_int hf 9 0 0 (by omega)]
  simp only [wzI, q3, q5, q6, q7, isFla, List.all_cons, List.all_nil, Bool.and_true, Bool.and_eq_true, beq_iff_eq]
  generalize tot (ceQ nb) l2.length 1 0 0 l2 = t0 at *
  generalize tot (ceQ nb) l2.length 1 1 0 l2 = t1 at *
  generalize tot (ceQ nb) l2.length 1 2 0 l2 = t2 at *
  generalize tot (ceQ nb) l2.length 1 4 0 l2 = t4 at *
  generalize tot (ceQ nb) l2.length 1 8 0 l2 = t8 at *
  rw [i64_eq ⟨by omega, by omega⟩ ⟨by omega, by omega⟩]
  omega
theorem VW.tz0 (h : VW numbers cells rows sizes rooms mem kn a l rm nb) {l2 : List Nat} (h2 : R16 l2) (h3 : ∀ t ∈ l2, t < 4 * kn) : lg_cmp (tz (TG nb l2 0)) 0 = 0 ↔ isStr (ceQ nb) l2 = true := by
  have q0 : tot (ceQ nb) l2.length 0 5 0 l2 = tot (ceQ nb) l2.length 0 2 0 l2 := tot_congr _ _ (ceQ_25 nb) l2 0
  have q2 : tot (ceQ nb) l2.length 2 5 0 l2 = tot (ceQ nb) l2.length 2 2 0 l2 := tot_congr _ _ (ceQ_25 nb) l2 0
  have b0 := h.bd0 h2 h3 0 (show 2 < 9 by omega)
  have b2 := h.bd0 h2 h3 2 (show 2 < 9 by omega)
  rw [lg_cmp_eq, tz]
  simp only [TG, totG_0, q0, q2, labs_i64 b0, labs_i64 b2, ← i64_add, isStr, Bool.and_eq_true, beq_iff_eq]
  generalize tot (ceQ nb) l2.length 0 2 0 l2 = t0 at *
  generalize tot (ceQ nb) l2.length 2 2 0 l2 = t2 at *
  rw [show (0 : Int64) = i64 0 from rfl, i64_eq ⟨by omega, by omega⟩ ⟨by omega, by omega⟩]
  omega
end
