/-! plies of a set stay; a plate is turned over; another row becomes the plate -/
section
variable {numbers cells rows sizes rooms mem past : Nat → Int32} {kn a : Nat} {l : List Nat} {rm : Nat} {nb : Nat → Int} {told lines kinds acted : Int32}
theorem VW.all (h : VW numbers cells rows sizes rooms mem kn a l rm nb) : fX1_allPlies sizes (nI a) = some (nI (2 ^ l.length - 1)) := by
  rw [fX1_allPlies, h.plies, Option.bind_some, all_nI _ (hi_bit h.R)]
theorem VW.mall (h : VW numbers cells rows sizes rooms mem kn a l rm nb) : fX8_allBits mem = some (nI (2 ^ l.length - 1)) := by
  rw [fX8_allBits, h.m2, all_nI _ (hi_bit h.R)]
theorem VW.stay (hN : PNt numbers cells rows sizes rooms told lines kinds (nI a) mem acted past) (h : VW numbers cells rows sizes rooms mem kn a l rm nb) (hk : kinds = nI kn) (f : a < 30) {g : Nat} (hg : g < 2 ^ l.length) (row : Nat → Int32) (wide lost : Int32) : ∃ (mem2 row' : Nat → Int32) (wide' : Int32), fX7_stayWith rows sizes rooms (nI a) (nI g) = some (upd rows (a + 1) (pk (sel g l)), upd sizes (a + 1) (nI (pop g)), upd rooms (a + 1) (nI rm), nI (a + 1)) ∧ fX8_stays mem (nI a) past row wide lost (nI g) = some (mem2, nI (a + 1), kp mem past a 0, row', wide', 0) ∧ mem2 2 = nI (pop g) ∧ PNt numbers cells (upd rows (a + 1) (pk (sel g l))) (upd sizes (a + 1) (nI (pop g))) (upd rooms (a + 1) (nI rm)) 1 lines (nI kn) (nI (a + 1)) mem2 (nI (a + 1)) (kp mem past a 0) := by
  have l8 := h.len
  have g256 : g < 256 := Nat.lt_of_lt_of_le hg (pow9 _ (hi_bit h.R)).1
  have hs := sel_len l8 hg
  have p8 := pop_le8 g
  obtain ⟨row', e1, e2⟩ := mSet h.R h.m2 h.mt g256 row wide lost
  obtain ⟨mem2, d1, d2, d3, d4⟩ := mStay_loop (acted := nI (a + 1)) (wide := 0) (lost := 0) (past := kp mem past a 0) (row := row') (w := (sel g l).length) (by omega) 8 FU 0 (upd mem 2 (nI (sel g l).length)) (by omega) (FU_gt (by omega))
  refine ⟨mem2, row', nI (sel g l).length, ?_, ?_, ?_, ?_⟩
  · rw [fX7_stayWith, h.row, Option.bind_some, h.plies, Option.bind_some, cSel h.R g256, Option.bind_some, h.room, Option.bind_some, bc g g256, cAct f, ob4_some]
  · rw [fX8_stays, e1, ob3_some, mKeeps f, ob2_some]
    exact d1
  · rw [d2 2 (by omega), upd_same, hs]
  · rw [← hs]
    exact hN.act2 h hk f (by omega) (sel_lt h.lt) (fun k h1 h2 => by rw [d2 k h1, upd_ne _ _ h2]) (by rw [d2 2 (by omega), upd_same]) (fun p hp => by rw [d4 p (by omega) hp]; exact e2 p hp)
def ovA (x : Nat) : Nat := if x = 1 then 2 else if x = 2 then 1 else x
def ovT (t : Nat) : Nat := 4 * (t / 4) + ovA (t % 4)
def ovL (l : List Nat) : List Nat := l.reverse.map ovT
theorem ovA_lt {x : Nat} (h : x < 4) : ovA x < 4 := by unfold ovA; split <;> (try split) <;> omega
theorem ovT_lt {t k : Nat} (h : t < 4 * k) : ovT t < 4 * k := by
  have := ovA_lt (Nat.mod_lt t (show 0 < 4 by omega))
  unfold ovT
  omega
theorem ovL_len (l : List Nat) : (ovL l).length = l.length := by rw [ovL, List.length_map, List.length_reverse]
theorem ovL_at {l : List Nat} {p : Nat} (h : p < l.length) : (ovL l).getD p 0 = ovT (l.getD (l.length - 1 - p) 0) := by
  rw [ovL, getD_map (by rw [List.length_reverse]; exact h), List.getD_eq_getElem?_getD, List.getElem?_reverse h, List.getD_eq_getElem?_getD]
theorem ovL_lt {l : List Nat} {k : Nat} (h : ∀ t ∈ l, t < 4 * k) : ∀ t ∈ ovL l, t < 4 * k := fun t ht => by
  obtain ⟨x, hx, rfl⟩ := List.mem_map.mp ht
  exact ovT_lt (h x (List.mem_reverse.mp hx))
theorem ovL_R {l : List Nat} (h : R16 l) : R16 (ovL l) := ⟨fun t ht => ovL_lt (k := 3) (fun t ht => h.1 t ht) t ht, by rw [ovL_len]; exact h.2⟩
theorem ov_c : ∀ t, t < 12 → nI t &&& 3 = nI (t % 4) ∧ (nI t &&& 12) ||| (stF 1 (t % 4)) = nI (ovT t) := by decide +kernel
theorem cOver_loop {l : List Nat} (hR : R16 l) : ∀ (k n i : Nat), i + k = l.length → k < n → fX3_overturned_4 n (pk l) (nI l.length) (pk ((ovL l).take i)) (nI i) = some (pk (ovL l)) := by
  have l8 := hR.2
  have hL := ovL_len l
  intro k
  induction k with
  | zero =>
    intro n i hi hn
    obtain ⟨n, rfl, -⟩ := succ_of hn
    rw [fX3_overturned_4, if_le_y (by omega) (by omega), List.take_of_length_le (by omega)]
  | succ k ih =>
    intro n i hi hn
    obtain ⟨n, rfl, hn'⟩ := succ_of hn
    have g1 := getD_lt12 hR (l.length - 1 - i)
    have o := or_take (ovL_R hR) (k := i) (by omega)
    have q := ov_c _ g1
    rw [fX3_overturned_4, if_le_n (by omega) (by omega), back_nI (by omega), typeAt_pk hR (by omega), q.1, chkN (Nat.mod_lt _ (by omega)) (by omega), nI_clamp' (by omega), q.2, ← ovL_at (by omega), o, nI_s, ih n (i + 1) (by omega) (by omega)]
theorem cOver {l : List Nat} (hR : R16 l) : fX3_overturned (pk l) (nI l.length) = some (pk (ovL l)) := by
  have := cOver_loop hR l.length FU 0 (by omega) (FU_gt (by have := hR.2; omega))
  rw [fX3_overturned]
  exact this
theorem ov_m {t : Nat} (h : t < 12) : (if nI (t % 4) = 1 then some (nI t + 1) else (if nI (t % 4) = 2 then some (nI t - 1) else some (nI t))) = some (nI (ovT t)) := by
  have : ∀ t, t < 12 → (if nI (t % 4) = 1 then some (nI t + 1) else (if nI (t % 4) = 2 then some (nI t - 1) else some (nI t))) = some (nI (ovT t)) := by decide +kernel
  exact this t h
theorem VW.upsetAt (h : VW numbers cells rows sizes rooms mem kn a l rm nb) {p : Nat} (hp : p < l.length) : fX8_upsetAt mem (nI p) = some (nI ((ovL l).getD p 0)) := by
  have l8 := h.len
  have g1 := getD_lt12 h.R (l.length - 1 - p)
  have e : ((19 : Int32) + nI l.length - 1) - nI p = nI (19 + (l.length - 1 - p)) := by rw [lit_nI19, lit_nI1, nI_add, nI_sub (by omega), nI_sub (by omega)]; congr 1; omega
  rw [fX8_upsetAt, h.m2, e, chkN (by omega) (by omega), nI_clamp' (by omega), h.mt _ (by omega), lit_nI4, irem_nI (by omega) (by omega) (by omega), ov_m g1, ovL_at hp]
theorem VW.ups_loop (h : VW numbers cells rows sizes rooms mem kn a l rm nb) {acted : Int32} {past : Nat → Int32} : ∀ (k n i : Nat) (row : Nat → Int32), i + k = l.length → k < n → (∀ p, p < i → row p = nI ((ovL l).getD p 0)) → ∃ row', fX8_upset_16 n mem acted past row (nI l.length) 0 (nI i) = fX8_upset_41 mem acted past row' (nI l.length) 0 ∧ RW row' (ovL l) := by
  have l8 := h.len
  intro k
  induction k with
  | zero =>
    intro n i row hi hn hr
    obtain ⟨n, rfl, -⟩ := succ_of hn
    exact ⟨row, by rw [fX8_upset_16, if_le_y (by omega) (by omega)], fun p hp => hr p (by rw [ovL_len] at hp; omega)⟩
  | succ k ih =>
    intro n i row hi hn hr
    obtain ⟨n, rfl, hn'⟩ := succ_of hn
    rw [fX8_upset_16, if_le_n (by omega) (by omega), h.upsetAt (by omega), Option.bind_some, chkN (by omega) (by omega), nI_clamp' (by omega), nI_s]
    exact ih n (i + 1) _ (by omega) (by omega) (fun p hp => by
      by_cases e : p = i
      · rw [e, upd_same]
      · rw [upd_ne _ _ e]; exact hr p (by omega))
theorem VW.relayC (h : VW numbers cells rows sizes rooms mem kn a l rm nb) {l2 : List Nat} (h2 : R16 l2) (hl : l2.length = l.length) : fX7_relay rows sizes rooms (nI a) (pk l2) = if unl l l2 = 0 then some (-5, rows, sizes, rooms, nI a) else if a < 30 then some (nI (unl l l2), upd rows (a + 1) (pk l2), upd sizes (a + 1) (nI l2.length), upd rooms (a + 1) (nI rm), nI (a + 1)) else some (-5, rows, sizes, rooms, nI a) := by
  have hu : unl l l2 ≤ 8 := by
    unfold unl
    have := List.length_filter_le (fun q : Nat × Nat => q.1 != q.2) (l.zip l2)
    rw [List.length_zip] at this
    have := h.len
    omega
  rw [fX7_relay, h.row, Option.bind_some, h.plies, Option.bind_some, unlikePlaces_pk h.R h2 hl, Option.bind_some, lit_nI0]
  by_cases c : unl l l2 = 0
  · rw [if_eq_y c, if_pos c]
  · rw [if_eq_n c (by omega) (by omega), if_neg c, cFull h.a30]
    by_cases f : a < 30
    · rw [if_pos f, if_pos f, if_pos (show (0 : Int32) = nI 0 from rfl), Option.bind_some, h.room, Option.bind_some, cAct f, ob4_some, hl]
    · rw [if_neg f, if_neg f, if_neg (by decide)]
theorem VW.becM (hN : PNt numbers cells rows sizes rooms told lines kinds (nI a) mem acted past) (h : VW numbers cells rows sizes rooms mem kn a l rm nb) (hk : kinds = nI kn) (f : a < 30) {l2 : List Nat} (h2 : R16 l2) (hl : l2.length = l.length) (h3 : ∀ t ∈ l2, t < 4 * kn) {row : Nat → Int32} (hr : RW row l2) : ∃ mem2, fX8_becomesRow mem (nI a) past row (nI l.length) = some (nI (unl l l2), mem2, nI (a + 1), kp mem past a 0) ∧ PNt numbers cells (upd rows (a + 1) (pk l2)) (upd sizes (a + 1) (nI l2.length)) (upd rooms (a + 1) (nI rm)) 1 lines (nI kn) (nI (a + 1)) mem2 (nI (a + 1)) (kp mem past a 0) := by
  have l8 := h.len
  obtain ⟨mem2, d1, d2, d3, d4⟩ := mBec_loop (acted := nI (a + 1)) (r := nI (unl l l2)) (past := kp mem past a 0) (row := row) (w := l.length) (by omega) l.length FU 0 mem (by omega) (FU_gt (by omega))
  refine ⟨mem2, ?_, ?_⟩
  · rw [fX8_becomesRow, mFarP h.R h2 hl h.mt hr, Option.bind_some, mKeeps f, ob2_some]
    exact d1
  · exact hN.act2 h hk f (by omega) h3 (fun k h1 _ => d2 k h1) (by rw [d2 2 (by omega), hl]; exact h.m2) (fun p hp => by rw [d4 p (by omega) (by omega)]; exact hr p hp)
end
theorem drop_set : ∀ n, n < 9 → ∀ i, i < n → nI (2 ^ n - 1) - nI (2 ^ i) = nI (2 ^ n - 1 - 2 ^ i) ∧ nI (2 ^ n - 1) &&& (nI (2 ^ i) ^^^ -1) = nI (2 ^ n - 1 - 2 ^ i) ∧ 2 ^ n - 1 - 2 ^ i < 2 ^ n := by decide +kernel
theorem mInSet {n : Nat} (hn : n < 2147483648) (x : Int32) : fX8_in x.toInt64 1 (nI n).toInt64 = if 1 ≤ x.toInt ∧ x.toInt ≤ n then 1 else 0 := by
  rw [in_spec, Int32.toInt_toInt64, nI_int hn]
  rfl
theorem mIn0 {n : Nat} (hn : n < 2147483648) (x : Int32) : fX8_in x.toInt64 0 (nI n).toInt64 = if 0 ≤ x.toInt ∧ x.toInt ≤ n then 1 else 0 := by
  rw [in_spec, Int32.toInt_toInt64, nI_int hn]
  rfl
theorem VW.cset {numbers cells rows sizes rooms mem : Nat → Int32} {kn a : Nat} {l : List Nat} {rm : Nat} {nb : Nat → Int} (h : VW numbers cells rows sizes rooms mem kn a l rm nb) (x : Int32) : fX7_isSet sizes 1 (nI a) x = some (if 1 ≤ x.toInt ∧ x.toInt ≤ (2 ^ l.length - 1 : Nat) then 1 else 0) := by
  have b := (pow9 _ (hi_bit h.R)).1
  rw [fX7_isSet, if_neg (by decide), h.all]
  by_cases c : x.toInt < 1
  · rw [if_pos (show x < 1 from (lt_nI (n := 1) (by omega)).mpr c), if_neg (by omega)]
  · rw [if_neg (show ¬ x < 1 from fun q => c ((lt_nI (n := 1) (by omega)).mp q)), Option.bind_some]
    by_cases d : ((2 ^ l.length - 1 : Nat) : Int) < x.toInt
    · rw [if_pos, if_neg (by omega)]
      rw [Int32.lt_iff_toInt_lt, nI_int (by omega)]; exact d
    · rw [if_neg, if_pos (by omega)]
      rw [Int32.lt_iff_toInt_lt, nI_int (by omega)]; exact d
