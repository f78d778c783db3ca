/-! tests of numbers, sets of plies, rows put together -/
theorem if_le_y {β : Type} {a b : Nat} {x y : β} [Decidable (nI a ≤ nI b)] (h : a ≤ b) (hb : b < 2147483648) : (if nI a ≤ nI b then x else y) = x := if_pos ((nI_le' (by omega) hb).mpr h)
theorem if_le_n {β : Type} {a b : Nat} {x y : β} [Decidable (nI a ≤ nI b)] (h : b < a) (ha : a < 2147483648) : (if nI a ≤ nI b then x else y) = y := if_neg (fun q => by have := (nI_le' ha (by omega)).mp q; omega)
theorem if_lt_y {β : Type} {a b : Nat} {x y : β} [Decidable (nI a < nI b)] (h : a < b) (hb : b < 2147483648) : (if nI a < nI b then x else y) = x := if_pos ((nI_lt' (by omega) hb).mpr h)
theorem if_lt_n {β : Type} {a b : Nat} {x y : β} [Decidable (nI a < nI b)] (h : b ≤ a) (ha : a < 2147483648) : (if nI a < nI b then x else y) = y := if_neg (fun q => by have := (nI_lt' ha (by omega)).mp q; omega)
theorem if_eq_y {β : Type} {a b : Nat} {x y : β} [Decidable (nI a = nI b)] (h : a = b) : (if nI a = nI b then x else y) = x := if_pos (by rw [h])
theorem if_eq_n {β : Type} {a b : Nat} {x y : β} [Decidable (nI a = nI b)] (h : ¬ a = b) (ha : a < 2147483648) (hb : b < 2147483648) : (if nI a = nI b then x else y) = y := if_neg (nI_ne h ha hb)
def selL (g : Nat) : Nat → List Nat → List Nat
  | _, [] => []
  | i, t :: r => if g.testBit i then t :: selL g (i + 1) r else selL g (i + 1) r
def sel (g : Nat) (l : List Nat) : List Nat := selL g 0 l
def popL (g : Nat) : Nat → Nat → Nat
  | _, 0 => 0
  | i, n + 1 => (if g.testBit i then 1 else 0) + popL g (i + 1) n
def pop (g : Nat) : Nat := popL g 0 8
theorem selL_mem (g : Nat) : ∀ (l : List Nat) (i x : Nat), x ∈ selL g i l → x ∈ l
  | [], _, _, h => by simp [selL] at h
  | t :: r, i, x, h => by
    unfold selL at h
    by_cases c : g.testBit i = true
    · rw [if_pos c] at h
      rcases List.mem_cons.mp h with q | q
      · rw [q]; exact List.mem_cons_self
      · exact List.mem_cons_of_mem _ (selL_mem g r (i + 1) x q)
    · rw [if_neg c] at h
      exact List.mem_cons_of_mem _ (selL_mem g r (i + 1) x h)
theorem selL_len (g : Nat) : ∀ (l : List Nat) (i : Nat), (selL g i l).length = popL g i l.length
  | [], i => rfl
  | t :: r, i => by
    unfold selL
    rw [List.length_cons, popL]
    by_cases c : g.testBit i = true
    · rw [if_pos c, if_pos c, List.length_cons, selL_len g r (i + 1), Nat.add_comm]
    · rw [if_neg c, if_neg c, selL_len g r (i + 1), Nat.zero_add]
theorem popL_le (g : Nat) : ∀ (n i : Nat), popL g i n ≤ n
  | 0, _ => Nat.le_refl _
  | n + 1, i => by
    have := popL_le g n (i + 1)
    rw [popL]
    split <;> omega
theorem pop_n : ∀ n, n < 9 → ∀ g, g < 2 ^ n → popL g 0 n = pop g := by decide +kernel
theorem bc : ∀ g, g < 256 → fJ6_bitCount_0f7a4 (nI g) = nI (pop g) := by decide +kernel
theorem pop_le8 (g : Nat) : pop g ≤ 8 := popL_le g 8 0
theorem sel_len {g : Nat} {l : List Nat} (h8 : l.length ≤ 8) (hg : g < 2 ^ l.length) : (sel g l).length = pop g := by
  rw [sel, selL_len, pop_n _ (by omega) g hg]
theorem sel_R {g : Nat} {l : List Nat} (h : R16 l) : R16 (sel g l) :=
  ⟨fun t ht => h.1 t (selL_mem g l 0 t ht), by rw [sel, selL_len]; exact Nat.le_trans (popL_le g _ 0) h.2⟩
theorem sel_lt {g n : Nat} {l : List Nat} (h : ∀ t ∈ l, t < n) : ∀ t ∈ sel g l, t < n := fun t ht => h t (selL_mem g l 0 t ht)
theorem all_nI : ∀ n, n < 9 → ((1 : Int32) <<< (nI n &&& 31)) - 1 = nI (2 ^ n - 1) := by decide +kernel
theorem pow9 : ∀ n, n < 9 → 2 ^ n ≤ 256 ∧ 1 ≤ 2 ^ n := by decide +kernel
theorem hi_bit {l : List Nat} (h : R16 l) : l.length < 9 := by have := h.2; omega
/-- the class chooses -/
theorem cSel_loop {l : List Nat} (hR : R16 l) {g : Nat} (hg : g < 256) : ∀ (k n i : Nat) (q : List Nat), i + k = l.length → k < n → q.length ≤ i → R16 q → fX3_chosen_8 n (pk l) (nI l.length) (nI g) (pk q) (nI q.length) (nI i) = some (pk (q ++ selL g i (l.drop i))) := by
  have l8 := hR.2
  intro k
  induction k with
  | zero =>
    intro n i q hi hn hq hRq
    obtain ⟨n, rfl, -⟩ := succ_of hn
    rw [fX3_chosen_8, if_le_y (by omega) (by omega), List.drop_eq_nil_of_le (by omega), selL, List.append_nil]
  | succ k ih =>
    intro n i q hi hn hq hRq
    obtain ⟨n, rfl, hn'⟩ := succ_of hn
    have g1 := getD_lt12 hR i
    rw [fX3_chosen_8, if_le_n (by omega) (by omega), bitAt g hg i (by omega), dropD (by omega), selL]
    simp only [fX3_chosen_40, nI_s]
    by_cases b : g.testBit i = true
    · rw [if_pos b, if_neg (by decide), if_pos b, typeAt_pk hR (by omega), or_pk hRq g1 (by omega)]
      have := ih n (i + 1) (q ++ [l.getD i 0]) (by omega) (by omega) (by simp; omega) (hRq.push g1 (by omega))
      rw [List.length_append, List.length_singleton] at this
      rw [this, List.append_assoc]
      rfl
    · rw [if_neg b, if_pos rfl, if_neg b, ih n (i + 1) q (by omega) (by omega) (by omega) hRq]
theorem cSel {l : List Nat} (hR : R16 l) {g : Nat} (hg : g < 256) : fX3_chosen (pk l) (nI l.length) (nI g) = some (pk (sel g l)) := by
  have := cSel_loop hR hg l.length FU 0 [] (by omega) (FU_gt (by have := hR.2; omega)) (by simp) ⟨by simp, by simp⟩
  rw [fX3_chosen]
  exact this
/-- the model lays a set -/
theorem mSet_loop {mem : Nat → Int32} {l : List Nat} (hR : R16 l) (m2 : mem 2 = nI l.length) (mt : ∀ p, p < l.length → mem (19 + p) = nI (l.getD p 0)) {g : Nat} (hg : g < 256) : ∀ (k n i : Nat) (q : List Nat) (row : Nat → Int32), i + k = l.length → k < n → q.length ≤ i → RW row q → ∃ row', fX8_laysSet_12 n mem row (nI q.length) 0 (nI g) (nI i) = some (row', nI (q ++ selL g i (l.drop i)).length, 0) ∧ RW row' (q ++ selL g i (l.drop i)) := by
  have l8 := hR.2
  intro k
  induction k with
  | zero =>
    intro n i q row hi hn hq hRq
    obtain ⟨n, rfl, -⟩ := succ_of hn
    refine ⟨row, ?_, ?_⟩
    · rw [fX8_laysSet_12, m2, if_le_y (by omega) (by omega), List.drop_eq_nil_of_le (by omega), selL, List.append_nil]
    · rw [List.drop_eq_nil_of_le (by omega), selL, List.append_nil]; exact hRq
  | succ k ih =>
    intro n i q row hi hn hq hRq
    obtain ⟨n, rfl, hn'⟩ := succ_of hn
    rw [fX8_laysSet_12, m2, if_le_n (by omega) (by omega), mHas hg (by omega), dropD (by omega), selL]
    simp only [fX8_laysSet_58, nI_s]
    by_cases b : g.testBit i = true
    · rw [if_pos b, if_neg (by decide), if_pos b, chk19 (by omega), chkN (by omega) (by omega), clamp19 (by omega), nI_clamp' (by omega), mt i (by omega)]
      obtain ⟨row', h1, h2⟩ := ih n (i + 1) (q ++ [l.getD i 0]) (upd row q.length (nI (l.getD i 0))) (by omega) (by omega) (by simp; omega) (fun p hp => by
        rw [List.length_append, List.length_singleton] at hp
        by_cases e : p = q.length
        · rw [e, upd_same, getD_app_end]
        · rw [upd_ne _ _ e, getD_app_l (by omega)]; exact hRq p (by omega))
      rw [List.append_assoc] at h1 h2
      rw [List.length_append, List.length_singleton] at h1
      exact ⟨row', h1, h2⟩
    · rw [if_neg b, if_pos rfl, if_neg b]
      exact ih n (i + 1) q row (by omega) (by omega) (by omega) hRq
theorem mSet {mem : Nat → Int32} {l : List Nat} (hR : R16 l) (m2 : mem 2 = nI l.length) (mt : ∀ p, p < l.length → mem (19 + p) = nI (l.getD p 0)) {g : Nat} (hg : g < 256) (row : Nat → Int32) (wide lost : Int32) : ∃ row', fX8_laysSet mem row wide lost (nI g) = some (row', nI (sel g l).length, 0) ∧ RW row' (sel g l) := by
  obtain ⟨row', h1, h2⟩ := mSet_loop hR m2 mt hg l.length FU 0 [] row (by omega) (FU_gt (by have := hR.2; omega)) (by simp) (fun p hp => by simp at hp)
  refine ⟨row', ?_, h2⟩
  rw [fX8_laysSet]
  exact h1
/-- a row grows by its next place -/
theorem take_s {I : List Nat} {k : Nat} (h : k < I.length) : I.take k ++ [I.getD k 0] = I.take (k + 1) := by
  rw [List.take_succ_eq_append_getElem h, List.getD_eq_getElem?_getD, List.getElem?_eq_getElem h]
  rfl
theorem R16_take {I : List Nat} (h : R16 I) (k : Nat) : R16 (I.take k) := ⟨fun t ht => h.1 t (List.mem_of_mem_take ht), by rw [List.length_take]; have := h.2; omega⟩
theorem or_take {I : List Nat} (h : R16 I) {k : Nat} (hk : k < I.length) : pk (I.take k) ||| (nI (I.getD k 0) <<< ((4 * nI k) &&& 31)) = pk (I.take (k + 1)) := by
  have e : (I.take k).length = k := by rw [List.length_take]; omega
  have := or_pk (R16_take h k) (getD_lt12 h k) (by have := h.2; omega)
  rw [e, take_s hk] at this
  exact this
/-- one ply put in -/
def insL (l : List Nat) (a t : Nat) : List Nat := l.take a ++ t :: l.drop a
theorem insL_len {l : List Nat} {a t : Nat} (h : a ≤ l.length) : (insL l a t).length = l.length + 1 := by
  rw [insL, List.length_append, List.length_take, List.length_cons, List.length_drop]; omega
theorem insL_at {l : List Nat} {a t : Nat} (h : a ≤ l.length) (k : Nat) : (insL l a t).getD k 0 = if k < a then l.getD k 0 else if k = a then t else l.getD (k - 1) 0 := by
  rw [insL, List.getD_eq_getElem?_getD]
  have e : (l.take a).length = a := by rw [List.length_take]; omega
  by_cases c : k < a
  · rw [if_pos c, List.getElem?_append_left (by omega), List.getElem?_take_of_lt c, List.getD_eq_getElem?_getD]
  · rw [if_neg c, List.getElem?_append_right (by omega), e]
    by_cases d : k = a
    · rw [if_pos d, d, Nat.sub_self]; rfl
    · rw [if_neg d, show k - a = (k - 1 - a) + 1 by omega, List.getElem?_cons_succ, List.getElem?_drop, show a + (k - 1 - a) = k - 1 by omega, List.getD_eq_getElem?_getD]
theorem insL_mem {l : List Nat} {a t x : Nat} (h : x ∈ insL l a t) : x ∈ l ∨ x = t := by
  rcases List.mem_append.mp h with q | q
  · exact Or.inl (List.mem_of_mem_take q)
  · rcases List.mem_cons.mp q with q | q
    · exact Or.inr q
    · exact Or.inl (List.mem_of_mem_drop q)
theorem cIns_loop {l : List Nat} (hR : R16 l) {a t : Nat} (ht : t < 12) (ha : a ≤ l.length) (h7 : l.length < 8) : ∀ (k n i : Nat), i + k = l.length + 1 → k < n → fX3_inserted_6 n (pk l) (nI l.length) (nI a) (nI t) (pk ((insL l a t).take i)) (nI i) = some (pk (insL l a t)) := by
  have hL := insL_len (t := t) ha
  have hRI : R16 (insL l a t) := ⟨fun x hx => by
    rcases insL_mem hx with q | q
    · exact hR.1 x q
    · omega, by omega⟩
  intro k
  induction k with
  | zero =>
    intro n i hi hn
    obtain ⟨n, rfl, -⟩ := succ_of hn
    rw [fX3_inserted_6, if_lt_y (by omega) (by omega), List.take_of_length_le (by omega)]
  | succ k ih =>
    intro n i hi hn
    obtain ⟨n, rfl, hn'⟩ := succ_of hn
    have e := insL_at (t := t) ha i
    have o := or_take hRI (k := i) (by omega)
    have st : ∀ z, z = nI ((insL l a t).getD i 0) → fX3_inserted_45 (fX3_inserted_6 n) (pk l) (nI l.length) (nI a) (nI t) (pk ((insL l a t).take i)) (nI i) z = some (pk (insL l a t)) := by
      intro z hz
      rw [fX3_inserted_45, hz, o, nI_s, ih n (i + 1) (by omega) (by omega)]
    rw [fX3_inserted_6, if_lt_n (by omega) (by omega)]
    by_cases c : a ≤ i
    · rw [if_le_y c (by omega)]
      by_cases d : i = a
      · rw [if_eq_y d]
        exact st _ (by rw [e, if_neg (by omega), if_pos d])
      · rw [if_eq_n d (by omega) (by omega), lit_nI1, nI_sub (by omega), typeAt_pk hR (by omega)]
        exact st _ (by rw [e, if_neg (by omega), if_neg d])
    · rw [if_le_n (by omega) (by omega), typeAt_pk hR (by omega)]
      exact st _ (by rw [e, if_pos (by omega)])
theorem cIns {l : List Nat} (hR : R16 l) {a t : Nat} (ht : t < 12) (ha : a ≤ l.length) (h7 : l.length < 8) : fX3_inserted (pk l) (nI l.length) (nI a) (nI t) = some (pk (insL l a t)) := by
  have := cIns_loop hR ht ha h7 (l.length + 1) FU 0 (by omega) (FU_gt (by omega))
  rw [fX3_inserted]
  exact this
theorem mPut_loop {acted : Int32} {past : Nat → Int32} {v2 v3 : Int32} {a : Nat} : ∀ (k n : Nat) (mem : Nat → Int32), a + k < 8 → k < n → ∃ mem2, fX8_put_79 n mem acted past (nI a) v2 v3 (nI (a + k)) = fX8_put_113 mem2 acted past (nI a) v2 v3 ∧ ∀ q, mem2 q = if 19 + a < q ∧ q ≤ 19 + a + k then mem (q - 1) else mem q := by
  intro k
  induction k with
  | zero =>
    intro n mem h8 hn
    obtain ⟨n, rfl, -⟩ := succ_of hn
    exact ⟨mem, by rw [fX8_put_79, if_le_y (by omega) (by omega)], fun q => by rw [if_neg (by omega)]⟩
  | succ k ih =>
    intro n mem h8 hn
    obtain ⟨n, rfl, hn'⟩ := succ_of hn
    have e1 : (19 : Int32) + nI (a + (k + 1)) - 1 = nI (19 + (a + k)) := by rw [lit_nI19, lit_nI1, nI_add, nI_sub (by omega)]; congr 1
    have e2 : nI (a + (k + 1)) + (-1 : Int32) = nI (a + k) := by
      rw [show (-1 : Int32) = i32 (-1) from rfl, nI_i32, nI_i32, ← i32_add]
      congr 1
      omega
    rw [fX8_put_79, if_le_n (by omega) (by omega), e1, e2, chkN (by omega) (by omega), chk19 (by omega), clamp19 (by omega), nI_clamp' (by omega)]
    obtain ⟨mem2, h1, h2⟩ := ih n (upd mem (19 + (a + (k + 1))) (mem (19 + (a + k)))) (by omega) (by omega)
    refine ⟨mem2, h1, fun q => ?_⟩
    rw [h2 q]
    by_cases c : 19 + a < q ∧ q ≤ 19 + a + k
    · rw [if_pos c, if_pos (by omega), upd_ne _ _ (by omega)]
    · rw [if_neg c]
      by_cases d : q = 19 + (a + (k + 1))
      · rw [d, upd_same, if_pos (by omega)]
        congr 1
      · rw [upd_ne _ _ d, if_neg (by omega)]
/-- plies of a set stay -/
theorem mStay_loop {acted wide lost : Int32} {past row : Nat → Int32} {w : Nat} (hw : w ≤ 8) : ∀ (k n i : Nat) (mem : Nat → Int32), i + k = 8 → k < n → ∃ mem2, fX8_stays_21 n mem acted past row (nI w) lost (nI i) = some (mem2, acted, past, row, nI w, lost) ∧ (∀ q, q < 19 → mem2 q = mem q) ∧ (∀ p, p < i → mem2 (19 + p) = mem (19 + p)) ∧ ∀ p, i ≤ p → p < w → mem2 (19 + p) = row p := by
  intro k
  induction k with
  | zero =>
    intro n i mem hi hn
    obtain ⟨n, rfl, -⟩ := succ_of hn
    exact ⟨mem, by rw [fX8_stays_21, lit_nI8, if_le_y (by omega) (by omega)], fun _ _ => rfl, fun _ _ => rfl, fun p h1 h2 => absurd h2 (by omega)⟩
  | succ k ih =>
    intro n i mem hi hn
    obtain ⟨n, rfl, hn'⟩ := succ_of hn
    have st : ∀ z, (i < w → z = row i) → ∃ mem2, fX8_stays_53 (fX8_stays_21 n) mem acted past row (nI w) lost (nI i) (19 + nI i) z = some (mem2, acted, past, row, nI w, lost) ∧ (∀ q, q < 19 → mem2 q = mem q) ∧ (∀ p, p < i → mem2 (19 + p) = mem (19 + p)) ∧ ∀ p, i ≤ p → p < w → mem2 (19 + p) = row p := by
      intro z hz
      obtain ⟨mem2, h1, h2, h3, h4⟩ := ih n (i + 1) (upd mem (19 + i) z) (by omega) (by omega)
      refine ⟨mem2, ?_, fun q hq => ?_, fun p hp => ?_, fun p h5 h6 => ?_⟩
      · rw [fX8_stays_53, chk19 (by omega), clamp19 (by omega), nI_s]; exact h1
      · rw [h2 q hq, upd_ne _ _ (by omega)]
      · rw [h3 p (by omega), upd_ne _ _ (by omega)]
      · by_cases e : p = i
        · rw [e, h3 i (by omega), upd_same]; exact hz (by omega)
        · exact h4 p (by omega) h6
    rw [fX8_stays_21, lit_nI8, if_le_n (by omega) (by omega)]
    by_cases c : w ≤ i
    · rw [if_le_y c (by omega)]
      exact st 0 (fun q => absurd q (by omega))
    · rw [if_le_n (by omega) (by omega), chkN (by omega) (by omega), nI_clamp' (by omega)]
      exact st _ (fun _ => rfl)
/-- how many places differ; the plate becomes a row -/
theorem mFarP_loop {mem row : Nat → Int32} {l l2 : List Nat} (hR : R16 l) (hR2 : R16 l2) (hl : l2.length = l.length) (mt : ∀ p, p < l.length → mem (19 + p) = nI (l.getD p 0)) (hr : RW row l2) : ∀ (k n i c : Nat), i + k = l.length → k < n → fX8_farFromPlate_4 n mem row (nI l.length) (nI c) (nI i) = some (nI (c + (((l.zip l2).drop i).filter (fun q => q.1 != q.2)).length)) := by
  have h8 := hR.2
  intro k
  induction k with
  | zero =>
    intro n i c hi hn
    obtain ⟨n, rfl, -⟩ := succ_of hn
    rw [fX8_farFromPlate_4, if_le_y (by omega) (by omega), List.drop_eq_nil_of_le (by rw [List.length_zip]; omega)]
    rfl
  | succ k ih =>
    intro n i c hi hn
    obtain ⟨n, rfl, hn'⟩ := succ_of hn
    have hz : i < (l.zip l2).length := by rw [List.length_zip]; omega
    have hzi : (l.zip l2).drop i = (l.getD i 0, l2.getD i 0) :: (l.zip l2).drop (i + 1) := by
      rw [List.drop_eq_getElem_cons hz, List.getElem_zip, List.getD_eq_getElem?_getD, List.getD_eq_getElem?_getD, List.getElem?_eq_getElem (by omega), List.getElem?_eq_getElem (by omega)]
      rfl
    have g1 := getD_lt12 hR i
    have g2 := getD_lt12 hR2 i
    rw [fX8_farFromPlate_4, if_le_n (by omega) (by omega), chkN (by omega) (by omega), chk19 (by omega), nI_clamp' (by omega), clamp19 (by omega), hr i (by omega), mt i (by omega), hzi, List.filter_cons]
    simp only [fX8_farFromPlate_36, nI_s]
    by_cases e : l2.getD i 0 = l.getD i 0
    · rw [if_eq_y e, show (0 : Int32) = nI 0 from rfl, nI_add, ih n (i + 1) _ (by omega) (by omega), if_neg (fun q => absurd e.symm (bne_iff_ne.mp q)), Nat.add_zero]
    · rw [if_eq_n e (by omega) (by omega), ih n (i + 1) _ (by omega) (by omega), if_pos (bne_iff_ne.mpr (fun q => e q.symm)), List.length_cons]
      congr 2
      omega
theorem mFarP {mem row : Nat → Int32} {l l2 : List Nat} (hR : R16 l) (hR2 : R16 l2) (hl : l2.length = l.length) (mt : ∀ p, p < l.length → mem (19 + p) = nI (l.getD p 0)) (hr : RW row l2) : fX8_farFromPlate mem row (nI l.length) = some (nI (unl l l2)) := by
  have := mFarP_loop hR hR2 hl mt hr l.length FU 0 0 (by omega) (FU_gt (by have := hR.2; omega))
  rw [fX8_farFromPlate]
  rw [Nat.zero_add] at this
  exact this
theorem mBec_loop {acted r : Int32} {past row : Nat → Int32} {w : Nat} (hw : w ≤ 8) : ∀ (k n i : Nat) (mem : Nat → Int32), i + k = w → k < n → ∃ mem2, fX8_becomesRow_11 n mem acted past row (nI w) r (nI i) = some (r, mem2, acted, past) ∧ (∀ q, q < 19 → mem2 q = mem q) ∧ (∀ p, p < i → mem2 (19 + p) = mem (19 + p)) ∧ ∀ p, i ≤ p → p < w → mem2 (19 + p) = row p := by
  intro k
  induction k with
  | zero =>
    intro n i mem hi hn
    obtain ⟨n, rfl, -⟩ := succ_of hn
    exact ⟨mem, by rw [fX8_becomesRow_11, if_le_y (by omega) (by omega)], fun _ _ => rfl, fun _ _ => rfl, fun p h1 h2 => absurd h2 (by omega)⟩
  | succ k ih =>
    intro n i mem hi hn
    obtain ⟨n, rfl, hn'⟩ := succ_of hn
    obtain ⟨mem2, h1, h2, h3, h4⟩ := ih n (i + 1) (upd mem (19 + i) (row i)) (by omega) (by omega)
    refine ⟨mem2, ?_, fun q hq => ?_, fun p hp => ?_, fun p h5 h6 => ?_⟩
    · rw [fX8_becomesRow_11, if_le_n (by omega) (by omega), chkN (by omega) (by omega), chk19 (by omega), clamp19 (by omega), nI_clamp' (by omega), nI_s]; exact h1
    · rw [h2 q hq, upd_ne _ _ (by omega)]
    · rw [h3 p (by omega), upd_ne _ _ (by omega)]
    · by_cases e : p = i
      · rw [e, h3 i (by omega), upd_same]
      · exact h4 p (by omega) h6
