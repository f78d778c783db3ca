/-! thinner plates, and ways to them -/
def soB (ce : Nat → Int) (l : List Nat) (m : Nat) : Bool := (!m.testBit 0 || isMir l) && ((!m.testBit 1 || isFla ce l) && (!m.testBit 2 || isStr ce l))
theorem so_and : ∀ x y z : Bool, ∀ m, m < 8 → ((nI ((if x then 1 else 0) + (if y then 2 else 0) + (if z then 4 else 0)) &&& nI m = nI m) ↔ ((!m.testBit 0 || x) && ((!m.testBit 1 || y) && (!m.testBit 2 || z))) = true) := by decide +kernel
theorem has8 : ∀ m, m < 8 → ∀ k, k < 3 → fX8_has (nI m) (nI k) = if m.testBit k then 1 else 0 := fun m hm k hk => mHas (by omega) (by omega)
def TH (nb : Nat → Int) (l : List Nat) (rm m g : Nat) : Bool := decide (lgr (sel g l) ≤ rm) && soB (ceQ nb) (sel g l) m
section
variable {numbers cells rows sizes rooms mem : Nat → Int32} {kn a : Nat} {l : List Nat} {rm : Nat} {nb : Nat → Int}
theorem VW.soC (h : VW numbers cells rows sizes rooms mem kn a l rm nb) {l2 : List Nat} (h2 : R16 l2) (h3 : ∀ t ∈ l2, t < 4 * kn) {m : Nat} (hm : m < 8) : (nI (shp (ceQ nb) l2) &&& nI m = nI m) ↔ soB (ceQ nb) l2 m = true := so_and _ _ _ m hm
theorem VW.isSo (h : VW numbers cells rows sizes rooms mem kn a l rm nb) {l2 : List Nat} {row : Nat → Int32} (h2 : R16 l2) (h3 : ∀ t ∈ l2, t < 4 * kn) (hr : RW row l2) {m : Nat} (hm : m < 8) : fX8_isSo mem row (nI l2.length) 0 (nI m) = some (b32 (soB (ceQ nb) l2 m)) := by
  have wm := h.warpM h2 h3 hr (g := 0) (by omega)
  have tm := h.twistM h2 h3 hr (g := 0) (by omega)
  rw [← lit_nI0] at wm tm
  have e0 := has8 m hm 0 (by omega)
  have e1 := has8 m hm 1 (by omega)
  have e2 := has8 m hm 2 (by omega)
  rw [← lit_nI0] at e0
  rw [← lit_nI1] at e1
  rw [← lit_nI2] at e2
  have s2 : fX8_isSo_32 mem row (nI l2.length) 0 (nI m) = some (b32 (!m.testBit 2 || isStr (ceQ nb) l2)) := by
    rw [fX8_isSo_32, e2, tm, Option.bind_some]
    cases b : m.testBit 2 with
    | false => rw [if_pos (show (if false = true then (1 : Int32) else 0) = 0 from rfl)]; rfl
    | true =>
      rw [if_pos rfl, if_neg (by decide)]
      by_cases c : isStr (ceQ nb) l2 = true
      · rw [if_pos ((h.tz0 h2 h3).mpr c), c]; rfl
      · rw [if_neg (fun q => c ((h.tz0 h2 h3).mp q)), Bool.eq_false_iff.mpr c]; rfl
  have s1 : fX8_isSo_15 mem row (nI l2.length) 0 (nI m) = some (b32 ((!m.testBit 1 || isFla (ceQ nb) l2) && (!m.testBit 2 || isStr (ceQ nb) l2))) := by
    rw [fX8_isSo_15, e1, wm, Option.bind_some, s2]
    cases b : m.testBit 1 with
    | false => rw [if_pos (show (if false = true then (1 : Int32) else 0) = 0 from rfl)]; rfl
    | true =>
      rw [if_pos rfl, if_neg (by decide)]
      by_cases c : isFla (ceQ nb) l2 = true
      · rw [if_pos ((h.wz0 h2 h3).mpr c), c]; rfl
      · rw [if_neg (fun q => c ((h.wz0 h2 h3).mp q)), Bool.eq_false_iff.mpr c]; rfl
  rw [fX8_isSo, e0, mMir h2 hr, Option.bind_some, s1, soB]
  cases b : m.testBit 0 with
  | false => rw [if_pos (show (if false = true then (1 : Int32) else 0) = 0 from rfl)]; rfl
  | true =>
    rw [if_pos rfl, if_neg (by decide)]
    cases c : isMir l2 with
    | false => rw [if_pos (show b32 false = 0 from rfl)]; rfl
    | true => rw [if_neg (show ¬ b32 true = 0 by decide)]; rfl
theorem VW.thinC (h : VW numbers cells rows sizes rooms mem kn a l rm nb) {g m : Nat} (hg : g < 2 ^ l.length) (hm : m < 8) : fX6_isThin cells rows sizes rooms (nI a) (nI g) (nI m) = some (b32 (TH nb l rm m g)) := by
  have b9 := pow9 _ (hi_bit h.R)
  have g256 : g < 256 := by omega
  have hs := sel_len h.len hg
  have hR := sel_R (g := g) h.R
  have h3 := sel_lt (g := g) h.lt
  have b1 := lgr_le hR.2
  have b2 := h.rm8
  rw [fX6_isThin, h.row, Option.bind_some, h.plies, Option.bind_some, cSel h.R g256, Option.bind_some, bc g g256, ← hs, fX1_suits, cRun hR, Option.bind_some, h.room, Option.bind_some, h.shape hR h3, Option.bind_some, TH]
  by_cases c : lgr (sel g l) ≤ rm
  · rw [if_lt_n (by omega) (by omega), decide_eq_true c, Bool.true_and]
    by_cases d : soB (ceQ nb) (sel g l) m = true
    · rw [if_pos ((h.soC hR h3 hm).mpr d), d]; rfl
    · rw [if_neg (fun q => d ((h.soC hR h3 hm).mp q)), Bool.eq_false_iff.mpr d]; rfl
  · rw [if_lt_y (by omega) (by omega), decide_eq_false c]; rfl
theorem VW.thinM (h : VW numbers cells rows sizes rooms mem kn a l rm nb) {g m : Nat} (hg : g < 2 ^ l.length) (hm : m < 8) (row : Nat → Int32) (wide lost : Int32) : ∃ row' wide', fX8_isThin mem row wide lost (nI g) (nI m) = some (b32 (TH nb l rm m g), row', wide', 0) := by
  have b9 := pow9 _ (hi_bit h.R)
  have g256 : g < 256 := by omega
  have hR := sel_R (g := g) h.R
  have h3 := sel_lt (g := g) h.lt
  have b1 := lgr_le hR.2
  have b2 := h.rm8
  obtain ⟨row', e1, e2⟩ := mSet h.R h.m2 h.mt g256 row wide lost
  refine ⟨row', nI (sel g l).length, ?_⟩
  rw [fX8_isThin, e1, ob3_some, mRun hR e2, Option.bind_some, h.m0, h.isSo hR h3 e2 hm, Option.bind_some, TH]
  by_cases c : lgr (sel g l) ≤ rm
  · rw [if_lt_n (by omega) (by omega), decide_eq_true c, Bool.true_and]
    cases soB (ceQ nb) (sel g l) m with
    | false => rw [if_pos (show b32 false = 0 from rfl)]; rfl
    | true => rw [if_neg (show ¬ b32 true = 0 by decide)]; rfl
  · rw [if_lt_y (by omega) (by omega), decide_eq_false c]; rfl
theorem pw_nI : ∀ n, n < 9 → ((1 : Int32) <<< (nI n &&& 31)) = nI (2 ^ n) := by decide +kernel
theorem VW.thinner_loop (h : VW numbers cells rows sizes rooms mem kn a l rm nb) {m c : Nat} (hm : m < 8) (hc : c ≤ 8) : ∀ (k n1 n2 s t : Nat) (row : Nat → Int32) (wide lost : Int32), s + k = 2 ^ l.length → k < n1 → k < n2 → t ≤ s → ∃ (r : Int32) (row' : Nat → Int32) (wide' lost' : Int32), fX6_thinnerSets_6 n1 cells rows sizes rooms (nI a) (nI c) (nI m) (nI t) (nI s) = some r ∧ fX8_thinOf_6 n2 mem row wide lost (nI c) (nI m) (-1) (nI t) (nI s) = some (r, row', wide', lost') := by
  have b9 := pow9 _ (hi_bit h.R)
  intro k
  induction k with
  | zero =>
    intro n1 n2 s t row wide lost hs h1 h2 ht
    obtain ⟨n1, rfl, -⟩ := succ_of h1
    obtain ⟨n2, rfl, -⟩ := succ_of h2
    exact ⟨nI t, row, wide, lost, by rw [fX6_thinnerSets_6, h.all, Option.bind_some, if_lt_y (by omega) (by omega)], by rw [fX8_thinOf_6, h.m2, pw_nI _ (hi_bit h.R), if_le_y (by omega) (by omega), fX8_thinOf_59, if_pos rfl]⟩
  | succ k ih =>
    intro n1 n2 s t row wide lost hs h1 h2 ht
    obtain ⟨n1, rfl, h1'⟩ := succ_of h1
    obtain ⟨n2, rfl, h2'⟩ := succ_of h2
    have p8 := pop_le8 s
    rw [fX6_thinnerSets_6, h.all, Option.bind_some, if_lt_n (by omega) (by omega), fX8_thinOf_6, h.m2, pw_nI _ (hi_bit h.R), if_le_n (by omega) (by omega), bc s (by omega)]
    simp only [fX6_thinnerSets_37, fX8_thinOf_53, nI_s]
    by_cases e : pop s = c
    · obtain ⟨row', wide', m1⟩ := h.thinM (g := s) (by omega) hm row wide lost
      rw [if_eq_y e, if_eq_y e, h.thinC (by omega) hm, Option.bind_some, m1, ob4_some]
      cases TH nb l rm m s with
      | false =>
        rw [if_pos (show b32 false = 0 from rfl), if_pos (show b32 false = 0 from rfl)]
        exact ih n1 n2 (s + 1) t _ _ _ (by omega) (by omega) (by omega) (by omega)
      | true =>
        rw [if_neg (show ¬ b32 true = 0 by decide), if_neg (show ¬ b32 true = 0 by decide), if_neg (m1_ne (by omega))]
        exact ih n1 n2 (s + 1) (t + 1) _ _ _ (by omega) (by omega) (by omega) (by omega)
    · rw [if_eq_n e (by omega) (by omega), if_eq_n e (by omega) (by omega)]
      exact ih n1 n2 (s + 1) t _ _ _ (by omega) (by omega) (by omega) (by omega)
theorem VW.thin_loop (h : VW numbers cells rows sizes rooms mem kn a l rm nb) {m c : Nat} (hm : m < 8) (hc : c ≤ 8) {v : Int32} (hv : ¬ v = -1) : ∀ (k n1 n2 s t : Nat) (row : Nat → Int32) (wide lost : Int32), s + k = 2 ^ l.length → k < n1 → k < n2 → t ≤ s → ∃ (r : Int32) (row' : Nat → Int32) (wide' lost' : Int32), fX6_thinnerSet_6 n1 cells rows sizes rooms (nI a) (nI c) (nI m) v (nI t) (nI s) = some r ∧ fX8_thinOf_6 n2 mem row wide lost (nI c) (nI m) v (nI t) (nI s) = some (r, row', wide', lost') := by
  have b9 := pow9 _ (hi_bit h.R)
  intro k
  induction k with
  | zero =>
    intro n1 n2 s t row wide lost hs h1 h2 ht
    obtain ⟨n1, rfl, -⟩ := succ_of h1
    obtain ⟨n2, rfl, -⟩ := succ_of h2
    exact ⟨-1, row, wide, lost, by rw [fX6_thinnerSet_6, h.all, Option.bind_some, if_lt_y (by omega) (by omega)], by rw [fX8_thinOf_6, h.m2, pw_nI _ (hi_bit h.R), if_le_y (by omega) (by omega), fX8_thinOf_59, if_neg hv]⟩
  | succ k ih =>
    intro n1 n2 s t row wide lost hs h1 h2 ht
    obtain ⟨n1, rfl, h1'⟩ := succ_of h1
    obtain ⟨n2, rfl, h2'⟩ := succ_of h2
    have p8 := pop_le8 s
    rw [fX6_thinnerSet_6, h.all, Option.bind_some, if_lt_n (by omega) (by omega), fX8_thinOf_6, h.m2, pw_nI _ (hi_bit h.R), if_le_n (by omega) (by omega), bc s (by omega)]
    simp only [fX6_thinnerSet_47, fX8_thinOf_53, nI_s]
    by_cases e : pop s = c
    · obtain ⟨row', wide', m1⟩ := h.thinM (g := s) (by omega) hm row wide lost
      rw [if_eq_y e, if_eq_y e, h.thinC (by omega) hm, Option.bind_some, m1, ob4_some]
      cases TH nb l rm m s with
      | false =>
        rw [if_pos (show b32 false = 0 from rfl), if_pos (show b32 false = 0 from rfl)]
        exact ih n1 n2 (s + 1) t _ _ _ (by omega) (by omega) (by omega) (by omega)
      | true =>
        rw [if_neg (show ¬ b32 true = 0 by decide), if_neg (show ¬ b32 true = 0 by decide)]
        by_cases f : nI t = v
        · rw [if_pos f, if_pos f]
          exact ⟨nI s, row', wide', 0, rfl, rfl⟩
        · rw [if_neg f, if_neg f]
          exact ih n1 n2 (s + 1) (t + 1) _ _ _ (by omega) (by omega) (by omega) (by omega)
    · rw [if_eq_n e (by omega) (by omega), if_eq_n e (by omega) (by omega)]
      exact ih n1 n2 (s + 1) t _ _ _ (by omega) (by omega) (by omega) (by omega)
end
theorem mask_y {x : Int32} (h : 0 ≤ x.toInt ∧ x.toInt ≤ 7) : fX7_isMask 1 x = 1 ∧ fX8_isMask x = 1 ∧ ∃ m : Nat, m < 8 ∧ x = nI m := by
  obtain ⟨m, rfl, hm, -⟩ := int_nat h.1
  refine ⟨?_, ?_, m, by omega, rfl⟩
  · rw [fX7_isMask, if_neg (by decide), lit_nI0, if_lt_n (by omega) (by omega), lit_nI8, if_le_n (by omega) (by omega)]
  · rw [fX8_isMask, in_spec, if_pos]
    exact h
theorem mask_n {x : Int32} (h : ¬ (0 ≤ x.toInt ∧ x.toInt ≤ 7)) : fX7_isMask 1 x = 0 ∧ fX8_isMask x = 0 := by
  refine ⟨?_, ?_⟩
  · rw [fX7_isMask, if_neg (by decide)]
    by_cases c : x.toInt < 0
    · rw [if_pos ((lt0_iff x).mpr c)]
    · rw [if_neg (fun q => c ((lt0_iff x).mp q)), if_pos (show (8 : Int32) ≤ x from (le_nI (n := 8) (by omega)).mpr (by omega))]
  · rw [fX8_isMask, in_spec, if_neg]
    exact h
theorem asked_y {mem : Nat → Int32} {x : Int32} (hi : fX8_is mem = some 1) (h : 0 ≤ x.toInt ∧ x.toInt ≤ 7) : fX8_isAsked mem x = some 1 := by
  rw [fX8_isAsked, hi, Option.bind_some, if_neg (by decide), (mask_y h).2.1, if_neg (by decide)]
theorem asked_n {mem : Nat → Int32} {x : Int32} (hi : fX8_is mem = some 1) (h : ¬ (0 ≤ x.toInt ∧ x.toInt ≤ 7)) : fX8_isAsked mem x = some 0 := by
  rw [fX8_isAsked, hi, Option.bind_some, if_neg (by decide), (mask_n h).2, if_pos rfl]
theorem asked_0 {mem : Nat → Int32} {x : Int32} (hi : fX8_is mem = some 0) : fX8_isAsked mem x = some 0 := by
  rw [fX8_isAsked, hi, Option.bind_some, if_pos rfl]
theorem out1n {β : Type} {x : Int32} {n : Nat} (hn : n < 2147483648) (c : ¬ (1 ≤ x.toInt ∧ x.toInt ≤ n)) {p q : Option β} : (if x < 1 then p else (if x ≤ nI n then q else p)) = p := by
  by_cases d : x.toInt < 1
  · rw [if_pos (show x < 1 from (lt_nI (n := 1) (by omega)).mpr d)]
  · rw [if_neg (show ¬ x < 1 from fun q => d ((lt_nI (n := 1) (by omega)).mp q)), if_neg]
    rw [nI_le_r hn]
    omega
