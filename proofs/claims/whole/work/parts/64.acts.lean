/-! Plates and their acts: reading the state, one act more, acts taken back. -/
theorem cRow {rows : Nat → Int32} {a : Nat} (h : a ≤ 30) : fX1_row rows (nI a) = some (rows a) := by
  unfold fX1_row
  rw [if_neg (nI_nn0 (by omega)), if_pos (show nI a < 31 from (nI_lt' (b := 31) (by omega) (by omega)).mpr (by omega)), chkN (by omega) (by omega), nI_clamp' (by omega)]
theorem cPlies {sizes : Nat → Int32} {a : Nat} (h : a ≤ 30) : fX1_plies sizes (nI a) = some (sizes a) := by
  unfold fX1_plies
  rw [if_neg (nI_nn0 (by omega)), if_pos (show nI a < 31 from (nI_lt' (b := 31) (by omega) (by omega)).mpr (by omega)), chkN (by omega) (by omega), nI_clamp' (by omega)]
theorem cRoom {rooms : Nat → Int32} {a : Nat} (h : a ≤ 30) : fX1_roomNow rooms (nI a) = some (rooms a) := by
  unfold fX1_roomNow
  rw [if_neg (nI_nn0 (by omega)), if_pos (show nI a < 31 from (nI_lt' (b := 31) (by omega) (by omega)).mpr (by omega)), chkN (by omega) (by omega), nI_clamp' (by omega)]
theorem cFull {a : Nat} (h : a ≤ 30) : fX1_isFull (nI a) = if a < 30 then 0 else 1 := by
  unfold fX1_isFull
  rw [lit_nI30]
  by_cases e : a < 30
  · rw [if_pos ((nI_lt' (by omega) (by omega)).mpr e), if_pos e]
  · rw [if_neg (fun q => e ((nI_lt' (by omega) (by omega)).mp q)), if_neg e]
theorem mFull {a : Nat} (h : a ≤ 30) : fX8_isFull (nI a) = if a < 30 then 0 else 1 := by
  unfold fX8_isFull
  rw [lit_nI30]
  by_cases e : a < 30
  · rw [if_neg (fun q => absurd ((nI_inj (by omega) (by omega)).mp q) (by omega)), if_pos e]
  · rw [if_pos ((nI_inj (by omega) (by omega)).mpr (by omega)), if_neg e]
theorem cAct {rows sizes rooms : Nat → Int32} {a : Nat} (h : a < 30) (x y z : Int32) : fX1_act rows sizes rooms (nI a) x y z = some (upd rows (a + 1) x, upd sizes (a + 1) y, upd rooms (a + 1) z, nI (a + 1)) := by
  unfold fX1_act
  rw [if_neg (nI_nn0 (by omega)), cFull (by omega), if_pos h, if_pos rfl, nI_1, chkN (by omega) (by omega), chkN (by omega) (by omega), chkN (by omega) (by omega), nI_clamp' (by omega)]
/-- what the model keeps of a state -/
def kp (mem past : Nat → Int32) (a i : Nat) : Nat → Int32 := fun q => if 27 * a + i ≤ q ∧ q < 27 * a + 27 then mem (q - 27 * a) else past q
theorem mKeeps_loop {mem : Nat → Int32} {a : Nat} (ha : a < 30) : ∀ (k n i : Nat) (past : Nat → Int32), i + k = 27 → k < n → fX8_keeps_2 n mem (nI a) past (nI i) = some (nI (a + 1), kp mem past a i) := by
  intro k
  induction k with
  | zero =>
    intro n i past hi hn
    obtain ⟨n, rfl, -⟩ := succ_of hn
    rw [fX8_keeps_2_s, lit_nI27, if_pos ((nI_le' (by omega) (by omega)).mpr (by omega)), nI_1]
    congr 2
    funext q
    unfold kp
    rw [if_neg (by omega)]
  | succ k ih =>
    intro n i past hi hn
    obtain ⟨n, rfl, hn⟩ := succ_of hn
    rw [fX8_keeps_2_s, lit_nI27, if_neg (fun q => absurd ((nI_le' (by omega) (by omega)).mp q) (by omega)), nI_mul, nI_add, nI_1, chkN (by omega) (by omega), chkN (by omega) (by omega), nI_clamp' (by omega), nI_clamp' (by omega), ih n (i + 1) _ (by omega) (by omega)]
    congr 2
    funext q
    unfold kp
    by_cases e : q = 27 * a + i
    · subst e
      rw [if_neg (by omega), if_pos (by omega), upd_same]
      congr 1
      omega
    · by_cases c : 27 * a + i ≤ q ∧ q < 27 * a + 27
      · rw [if_pos (by omega), if_pos c]
      · rw [if_neg (by omega), if_neg c, upd_ne _ _ e]
theorem mKeeps {mem past : Nat → Int32} {a : Nat} (ha : a < 30) : fX8_keeps mem (nI a) past = some (nI (a + 1), kp mem past a 0) := by
  unfold fX8_keeps
  rw [lit_nI0]
  exact mKeeps_loop ha 27 FU 0 past (by omega) (FU_gt (by omega))
/-- what the model takes back -/
def gb (mem past : Nat → Int32) (a i : Nat) : Nat → Int32 := fun q => if i ≤ q ∧ q < 27 then past (27 * a + q) else mem q
theorem mBack_loop {past : Nat → Int32} {a : Nat} (ha : a < 30) (acted : Int32) : ∀ (k n i : Nat) (mem : Nat → Int32), i + k = 27 → k < n → fX8_goesBack_7 n mem acted past (nI a) (nI i) = some (gb mem past a i, acted) := by
  intro k
  induction k with
  | zero =>
    intro n i mem hi hn
    obtain ⟨n, rfl, -⟩ := succ_of hn
    rw [fX8_goesBack_7_s, lit_nI27, if_pos ((nI_le' (by omega) (by omega)).mpr (by omega))]
    congr 2
    funext q
    unfold gb
    rw [if_neg (by omega)]
  | succ k ih =>
    intro n i mem hi hn
    obtain ⟨n, rfl, hn⟩ := succ_of hn
    rw [fX8_goesBack_7_s, lit_nI27, if_neg (fun q => absurd ((nI_le' (by omega) (by omega)).mp q) (by omega)), nI_mul, nI_add, nI_1, chkN (by omega) (by omega), chkN (by omega) (by omega), nI_clamp' (by omega), nI_clamp' (by omega), ih n (i + 1) _ (by omega) (by omega)]
    congr 2
    funext q
    unfold gb
    by_cases e : q = i
    · subst e
      rw [if_neg (by omega), if_pos (by omega), upd_same]
    · by_cases c : i ≤ q ∧ q < 27
      · rw [if_pos (by omega), if_pos c]
      · rw [if_neg (by omega), if_neg c, upd_ne _ _ e]
theorem mBack {mem past : Nat → Int32} {a : Nat} (ha : a < 30) (acted : Int32) : fX8_goesBack mem acted past (nI a) = some (gb mem past a 0, nI a) := by
  unfold fX8_goesBack
  rw [lit_nI0]
  exact mBack_loop ha (nI a) 27 FU 0 mem (by omega) (FU_gt (by omega))
theorem Snap.congr {numbers : Nat → Int32} {kn : Nat} (hk : kn ≤ 3) {lines row size room : Int32} {mf mf' : Nat → Int32} (h : ∀ k, k < 27 → mf' k = mf k) (hs : Snap numbers kn lines row size room mf) : Snap numbers kn lines row size room mf' := by
  obtain ⟨l, rm, h1, h2, h3, h4, h5, h6, h7, h8, h9, h10, h11, h12, h13⟩ := hs
  exact ⟨l, rm, h1, h2, h3, h4, h5, h6, h7, by rw [h 0 (by omega)]; exact h8, by rw [h 1 (by omega)]; exact h9, by rw [h 2 (by omega)]; exact h10, by rw [h 3 (by omega)]; exact h11, fun q hq => by rw [h _ (by omega)]; exact h12 q hq, fun p hp => by rw [h _ (by omega)]; exact h13 p hp⟩
/-- one act more -/
theorem PNt.act {numbers cells rows sizes rooms mem past mem2 : Nat → Int32} {lines x y z : Int32} {kn a ln : Nat} (ha : a < 30) (hl : lines = nI ln) (h1 : 1 ≤ ln) (h2 : ln ≤ 600) (hp : PlOK numbers cells kn) (hpast : ∀ j, j < a → Snap numbers kn lines (rows j) (sizes j) (rooms j) (fun k => past (27 * j + k))) (hs : Snap numbers kn lines (rows a) (sizes a) (rooms a) mem) (hn : Snap numbers kn lines x y z mem2) :
    PNt numbers cells (upd rows (a + 1) x) (upd sizes (a + 1) y) (upd rooms (a + 1) z) 1 lines (nI kn) (nI (a + 1)) mem2 (nI (a + 1)) (kp mem past a 0) := by
  refine ⟨kn, a + 1, ln, rfl, rfl, rfl, rfl, by omega, hl, h1, h2, hp, fun j hj => ?_, ?_⟩
  · rw [upd_ne _ _ (by omega), upd_ne _ _ (by omega), upd_ne _ _ (by omega)]
    by_cases e : j = a
    · subst e
      refine Snap.congr hp.1 (fun k hk => ?_) hs
      show kp mem past j 0 (27 * j + k) = mem k
      unfold kp
      rw [if_pos (by omega)]
      congr 1
      omega
    · refine Snap.congr hp.1 (fun k hk => ?_) (hpast j (by omega))
      show kp mem past a 0 (27 * j + k) = past (27 * j + k)
      unfold kp
      rw [if_neg (by omega)]
  · rw [upd_same, upd_same, upd_same]
    exact hn
/-- the model's own tests -/
theorem in_spec (x : Int32) (a b : Int64) : fX8_in x.toInt64 a b = if a.toInt ≤ x.toInt ∧ x.toInt ≤ b.toInt then 1 else 0 := by
  have e : x.toInt64.toInt = x.toInt := Int32.toInt_toInt64 x
  unfold fX8_in
  by_cases h1 : x.toInt < a.toInt
  · rw [if_pos ((lg_cmp_lt _ _).mpr (Int64.lt_iff_toInt_lt.mpr (by rw [e]; exact h1))), if_neg (by omega)]
  · rw [if_neg (fun q => h1 (by have := Int64.lt_iff_toInt_lt.mp ((lg_cmp_lt _ _).mp q); rw [e] at this; exact this))]
    by_cases h2 : b.toInt < x.toInt
    · rw [if_pos ((lg_cmp_gt _ _).mpr (Int64.lt_iff_toInt_lt.mpr (by rw [e]; exact h2))), if_neg (by omega)]
    · rw [if_neg (fun q => h2 (by have := Int64.lt_iff_toInt_lt.mp ((lg_cmp_gt _ _).mp q); rw [e] at this; exact this)), if_pos (by omega)]
theorem nI_int {n : Nat} (h : n < 2147483648) : (nI n).toInt = (n : Int) := nI_toInt (by omega)
theorem lt0_iff (x : Int32) : x < 0 ↔ x.toInt < 0 := Int32.lt_iff_toInt_lt
theorem le_nI {x : Int32} {n : Nat} (h : n < 2147483648) : nI n ≤ x ↔ (n : Int) ≤ x.toInt := by rw [Int32.le_iff_toInt_le, nI_int h]
theorem nI_le_r {x : Int32} {n : Nat} (h : n < 2147483648) : x ≤ nI n ↔ x.toInt ≤ (n : Int) := by rw [Int32.le_iff_toInt_le, nI_int h]
theorem lt_nI {x : Int32} {n : Nat} (h : n < 2147483648) : x < nI n ↔ x.toInt < (n : Int) := by rw [Int32.lt_iff_toInt_lt, nI_int h]
theorem eq_nI {x : Int32} {n : Nat} (h : n < 2147483648) : x = nI n ↔ x.toInt = (n : Int) := by rw [← Int32.toInt_inj, nI_int h]
theorem nI_of_int {x : Int32} {n : Nat} (h : x.toInt = (n : Int)) : x = nI n := by rw [nI_i32, ← h, i32_of]
theorem nIsub1_l {n : Nat} (h : n < 2147483648) : ((nI n - 1).toInt64).toInt = (n : Int) - 1 := by
  rw [Int32.toInt_toInt64, nI_i32, show (1 : Int32) = i32 1 from rfl, ← i32_sub, i32_int ⟨by omega, by omega⟩]
/-- the model: is a ply, a kind; the class's -/
theorem mIsPly {mem : Nat → Int32} {n : Nat} (h : mem 2 = nI n) (hn : n < 1000) (x : Int32) : fX8_isPly mem x = some (if 0 ≤ x.toInt ∧ x.toInt < n then 1 else 0) := by
  unfold fX8_isPly
  rw [h, in_spec, nIsub1_l (by omega)]
  congr 1
  by_cases c : 0 ≤ x.toInt ∧ x.toInt < n
  · rw [if_pos c, if_pos ⟨c.1, by omega⟩]
  · rw [if_neg c, if_neg (fun q => c ⟨q.1, by omega⟩)]
theorem mIsKind {mem : Nat → Int32} {n : Nat} (h : mem 1 = nI n) (hn : n < 1000) (x : Int32) : fX8_isKind mem x = some (if 0 ≤ x.toInt ∧ x.toInt < n then 1 else 0) := by
  unfold fX8_isKind
  rw [h, in_spec, nIsub1_l (by omega)]
  congr 1
  by_cases c : 0 ≤ x.toInt ∧ x.toInt < n
  · rw [if_pos c, if_pos ⟨c.1, by omega⟩]
  · rw [if_neg c, if_neg (fun q => c ⟨q.1, by omega⟩)]
theorem cIsPly {sizes : Nat → Int32} {a n : Nat} (ha : a ≤ 30) (h : sizes a = nI n) (hn : n < 1000) (x : Int32) : fX7_isPly sizes 1 (nI a) x = some (if 0 ≤ x.toInt ∧ x.toInt < n then 1 else 0) := by
  unfold fX7_isPly
  rw [if_neg (by decide), cPlies ha]
  by_cases c : x.toInt < 0
  · rw [if_pos ((lt0_iff x).mpr c), if_neg (by omega)]
  · rw [if_neg (fun q => c ((lt0_iff x).mp q)), Option.bind_some, h]
    by_cases c2 : (n : Int) ≤ x.toInt
    · rw [if_pos ((le_nI (by omega)).mpr c2), if_neg (by omega)]
    · rw [if_neg (fun q => c2 ((le_nI (by omega)).mp q)), if_pos (by omega)]
theorem cIsKind {kn : Nat} (hn : kn < 1000) (x : Int32) : fX7_isKind 1 (nI kn) x = if 0 ≤ x.toInt ∧ x.toInt < kn then 1 else 0 := by
  unfold fX7_isKind
  rw [if_neg (by decide)]
  by_cases c : x.toInt < 0
  · rw [if_pos ((lt0_iff x).mpr c), if_neg (by omega)]
  · rw [if_neg (fun q => c ((lt0_iff x).mp q))]
    by_cases c2 : (kn : Int) ≤ x.toInt
    · rw [if_pos ((le_nI (by omega)).mpr c2), if_neg (by omega)]
    · rw [if_neg (fun q => c2 ((le_nI (by omega)).mp q)), if_pos (by omega)]
theorem int_nat {x : Int32} (h : 0 ≤ x.toInt) : ∃ k : Nat, x = nI k ∧ x.toInt = (k : Int) ∧ k < 2147483648 := by
  refine ⟨x.toInt.toNat, ?_, by omega, ?_⟩
  · exact nI_of_int (by omega)
  · have := x.toInt_lt
    omega
theorem mIs {mem : Nat → Int32} {ln : Nat} (h : mem 3 = nI ln) (h1 : 1 ≤ ln) (h2 : ln ≤ 600) : fX8_is mem = some 1 := by
  unfold fX8_is
  rw [h, lit_nI0, if_neg (fun q => absurd ((nI_le' (by omega) (by omega)).mp q) (by omega))]
theorem mIs0 {mem : Nat → Int32} (h : mem 3 = 0) : fX8_is mem = some 0 := by
  unfold fX8_is
  rw [h, if_pos (by decide)]
theorem cTypeAt {rows : Nat → Int32} {a : Nat} (ha : a ≤ 30) {l : List Nat} (hR : R16 l) (hrow : rows a = pk l) {i : Nat} (hi : i < 8) : fX1_typeAt rows (nI a) (nI i) = some (nI (l.getD i 0)) := by
  unfold fX1_typeAt
  rw [cRow ha, Option.bind_some, hrow, typeAt_pk hR hi]
theorem mAt {mem : Nat → Int32} {i : Nat} (hi : i < 8) : mem ((19 : Int32) + nI i).toNatClampNeg = mem (19 + i) := by
  rw [lit_nI19, nI_add, nI_clamp' (by omega)]
theorem chk19 {β : Type} {i : Nat} {t : Option β} (hi : i < 8) : chk 27 ((19 : Int32) + nI i) t = t := by
  rw [lit_nI19, nI_add]
  exact chkN (by omega) (by omega)
theorem clamp19 {i : Nat} (hi : i < 8) : ((19 : Int32) + nI i).toNatClampNeg = 19 + i := by
  rw [lit_nI19, nI_add, nI_clamp' (by omega)]
/-- another row of types, all else as it was -/
theorem Snap.types {numbers mem mem2 : Nat → Int32} {kn rm : Nat} {lines : Int32} {l2 : List Nat} (hk : kn ≤ 3) (h1 : 1 ≤ rm) (h8 : rm ≤ 8) (m0 : mem 0 = nI rm) (m1 : mem 1 = nI kn) (m3 : mem 3 = lines) (mk : ∀ q, q < 5 * kn → mem (4 + q) = numbers q) (hl2 : l2.length ≤ 8) (hlt : ∀ t ∈ l2, t < 4 * kn) (hm : ∀ k, k < 19 → k ≠ 2 → mem2 k = mem k) (h2 : mem2 2 = nI l2.length) (ht : ∀ p, p < l2.length → mem2 (19 + p) = nI (l2.getD p 0)) : Snap numbers kn lines (pk l2) (nI l2.length) (nI rm) mem2 :=
  ⟨l2, rm, hl2, hlt, h1, h8, rfl, rfl, rfl, by rw [hm 0 (by omega) (by omega)]; exact m0, by rw [hm 1 (by omega) (by omega)]; exact m1, h2, by rw [hm 3 (by omega) (by omega)]; exact m3, fun q hq => by rw [hm _ (by omega) (by omega)]; exact mk q hq, ht⟩
theorem getD_set {l : List Nat} {k t p : Nat} (hk : k < l.length) : (l.set k t).getD p 0 = if p = k then t else l.getD p 0 := by
  rw [List.getD_eq_getElem?_getD, List.getD_eq_getElem?_getD, List.getElem?_set]
  by_cases e : k = p
  · rw [if_pos e, if_pos hk, if_pos e.symm]
    rfl
  · rw [if_neg e, if_neg (fun q => e q.symm)]
theorem getD_mem {l : List Nat} {k : Nat} (hk : k < l.length) : l.getD k 0 ∈ l := by
  rw [List.getD_eq_getElem?_getD, List.getElem?_eq_getElem hk]
  exact List.getElem_mem hk
theorem mem_set {l : List Nat} {k t x : Nat} (h : x ∈ l.set k t) : x ∈ l ∨ x = t := List.mem_or_eq_of_mem_set h
theorem cIsAngle (x : Int32) : fX7_isAngle x = if 0 ≤ x.toInt ∧ x.toInt < 4 then 1 else 0 := by
  unfold fX7_isAngle
  by_cases c : x.toInt < 0
  · rw [if_pos ((lt0_iff x).mpr c), if_neg (by omega)]
  · rw [if_neg (fun q => c ((lt0_iff x).mp q)), lit_nI4]
    by_cases c2 : (4 : Int) ≤ x.toInt
    · rw [if_pos ((le_nI (n := 4) (by omega)).mpr c2), if_neg (by omega)]
    · rw [if_neg (fun q => c2 ((le_nI (n := 4) (by omega)).mp q)), if_pos (by omega)]
theorem mIn3 (x : Int32) : fX8_in x.toInt64 0 3 = if 0 ≤ x.toInt ∧ x.toInt < 4 then 1 else 0 := by
  rw [in_spec, show (0 : Int64).toInt = 0 from rfl, show (3 : Int64).toInt = 3 from rfl]
  by_cases c : 0 ≤ x.toInt ∧ x.toInt < 4
  · rw [if_pos c, if_pos ⟨c.1, by omega⟩]
  · rw [if_neg c, if_neg (fun q => c ⟨q.1, by omega⟩)]
theorem e10 : ((1 : Int32) = 0) = False := eq_false (by decide)
theorem nI_ne {a b : Nat} (h : ¬ a = b) (ha : a < 2147483648) (hb : b < 2147483648) : ¬ nI a = nI b := fun q => h ((nI_inj ha hb).mp q)
theorem mAt_ {mem : Nat → Int32} {i : Nat} (hi : i < 8) {x : Int32} (h : mem (19 + i) = x) : mem ((19 : Int32) + nI i).toNatClampNeg = x := by rw [clamp19 hi]; exact h
theorem mBack0 {mem past : Nat → Int32} {acted : Int32} : fX8_goesBack mem acted past 0 = some (gb mem past 0 0, 0) := mBack (a := 0) (by omega) acted
