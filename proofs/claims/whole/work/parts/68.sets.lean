/-! warp, twist, counts -/
def wzL (F : Nat → Int64) : Nat → Nat → Int64 → Int64
  | 0, _, acc => acc
  | k + 1, c, acc => wzL F k (c + 1) (acc + labs (F c))
def wz (F : Nat → Int64) : Int64 := wzL F 9 0 0
theorem wzL_add (F : Nat → Int64) : ∀ (a b c : Nat) (acc : Int64), wzL F (a + b) c acc = wzL F b (c + a) (wzL F a c acc)
  | 0, b, c, acc => by rw [Nat.zero_add]; rfl
  | a + 1, b, c, acc => by
    rw [show a + 1 + b = (a + b) + 1 by omega, wzL, wzL, wzL_add F a b, show c + 1 + a = c + (a + 1) by omega]
theorem FU_10 : ∃ n, FU = n + 10 := ⟨99990, rfl⟩
def TG (nb : Nat → Int) (l : List Nat) (g w c : Nat) : Int64 := i64 (totG (ceQ nb) l.length w c g 0 l)
section
variable {numbers cells rows sizes rooms mem : Nat → Int32} {kn a : Nat} {l : List Nat} {rm : Nat} {nb : Nat → Int}
theorem VW.warpC_loop (h : VW numbers cells rows sizes rooms mem kn a l rm nb) {g : Nat} (hg : g < 256) : ∀ (k n c : Nat) (acc : Int64), c + k = 9 → k < n → fX1_warpWithout_5 n cells rows sizes (nI a) (nI g) acc (nI c) = some (wzL (TG nb l g 1) k c acc)
  | 0, n, c, acc, hc, hn => by
    obtain ⟨m, rfl, -⟩ := succ_of hn
    rw [fX1_warpWithout_5, lit_nI9, if_pos ((nI_le' (by omega) (by omega)).mpr (by omega)), wzL]
  | k + 1, n, c, acc, hc, hn => by
    obtain ⟨m, rfl, hm⟩ := succ_of hn
    rw [fX1_warpWithout_5, lit_nI9, if_neg (fun q => by have := (nI_le' (by omega) (by omega)).mp q; omega), lit_nI1, h.total (by omega) (by omega) hg, Option.bind_some, nI_add, VW.warpC_loop h hg k m (c + 1) _ (by omega) (by omega), wzL]
    rfl
theorem VW.warpC (h : VW numbers cells rows sizes rooms mem kn a l rm nb) {g : Nat} (hg : g < 256) : fX1_warpWithout cells rows sizes (nI a) (nI g) = some (wz (TG nb l g 1)) := by
  rw [fX1_warpWithout]
  exact h.warpC_loop hg 9 FU 0 0 rfl (FU_gt (by omega))
theorem VW.warpM_in (h : VW numbers cells rows sizes rooms mem kn a l rm nb) {l2 : List Nat} {row : Nat → Int32} (h2 : R16 l2) (h3 : ∀ t ∈ l2, t < 4 * kn) (hr : RW row l2) {g i : Nat} (hg : g < 256) (hi : i < 3) (k4 : (Nat → Int32) → (Nat → Int32) → Int32 → Int32 → Int64 → Int32 → Option Int64) : ∀ (k n j : Nat) (acc : Int64), j + k = 3 → k < n → fX8_warpHere_12 k4 n mem row (nI l2.length) (nI g) acc (nI i) (nI j) = k4 mem row (nI l2.length) (nI g) (wzL (TG nb l2 g 1) k (3 * i + j) acc) (nI (i + 1))
  | 0, n, j, acc, hj, hn => by
    obtain ⟨m, rfl, -⟩ := succ_of hn
    rw [fX8_warpHere_12, lit_nI3, if_pos ((nI_le' (by omega) (by omega)).mpr (by omega)), fX8_warpHere_38, lit_nI1, nI_add, wzL]
  | k + 1, n, j, acc, hj, hn => by
    obtain ⟨m, rfl, hm⟩ := succ_of hn
    rw [fX8_warpHere_12, lit_nI3, if_neg (fun q => by have := (nI_le' (by omega) (by omega)).mp q; omega), lit_nI1, h.sum h2 h3 hr (by omega) hi (by omega) hg, Option.bind_some, nI_add, VW.warpM_in h h2 h3 hr hg hi k4 k m (j + 1) _ (by omega) (by omega), wzL]
    rfl
theorem VW.warpM (h : VW numbers cells rows sizes rooms mem kn a l rm nb) {l2 : List Nat} {row : Nat → Int32} (h2 : R16 l2) (h3 : ∀ t ∈ l2, t < 4 * kn) (hr : RW row l2) {g : Nat} (hg : g < 256) : fX8_warpHere mem row (nI l2.length) (nI g) = some (wz (TG nb l2 g 1)) := by
  rw [fX8_warpHere, lit_nI0]
  obtain ⟨n, hn⟩ := FU_10
  have e : ∀ (m i : Nat) (acc : Int64), i < 3 → fX8_warpHere_4 (m + 1) mem row (nI l2.length) (nI g) acc (nI i) = fX8_warpHere_4 m mem row (nI l2.length) (nI g) (wzL (TG nb l2 g 1) 3 (3 * i) acc) (nI (i + 1)) := by
    intro m i acc hi
    rw [fX8_warpHere_4, lit_nI3, if_neg (fun q => by have := (nI_le' (by omega) (by omega)).mp q; omega), lit_nI0, h.warpM_in h2 h3 hr hg hi _ 3 FU 0 acc rfl (FU_gt (by omega))]
    rfl
  rw [show fX8_warpHere_4 FU = fX8_warpHere_4 (n + 7 + 1 + 1 + 1) by rw [hn], e _ 0 0 (by omega), e _ 1 _ (by omega), e _ 2 _ (by omega), fX8_warpHere_4, lit_nI3, if_pos ((nI_le' (by omega) (by omega)).mpr (by omega)), wz, show (9 : Nat) = 3 + (3 + 3) from rfl, wzL_add, wzL_add]
def tz (F : Nat → Nat → Int64) : Int64 := (((labs (F 0 2)) + (labs (F 0 5))) + (labs (F 2 2))) + (labs (F 2 5))
theorem VW.twistC (h : VW numbers cells rows sizes rooms mem kn a l rm nb) : fX1_twistNow cells rows sizes (nI a) = some (tz (TG nb l 0)) := by
  rw [fX1_twistNow, lit_nI0, lit_nI2, lit_nI5, h.total (by omega) (by omega) (by omega), Option.bind_some, h.total (by omega) (by omega) (by omega), Option.bind_some, h.total (by omega) (by omega) (by omega), Option.bind_some, h.total (by omega) (by omega) (by omega), Option.bind_some]
  rfl
theorem VW.twistM (h : VW numbers cells rows sizes rooms mem kn a l rm nb) {l2 : List Nat} {row : Nat → Int32} (h2 : R16 l2) (h3 : ∀ t ∈ l2, t < 4 * kn) (hr : RW row l2) {g : Nat} (hg : g < 256) : fX8_twistHere mem row (nI l2.length) (nI g) = some (tz (TG nb l2 g)) := by
  rw [fX8_twistHere, lit_nI0, lit_nI2, lit_nI1, h.sum h2 h3 hr (by omega) (by omega) (by omega) hg, Option.bind_some, h.sum h2 h3 hr (by omega) (by omega) (by omega) hg, Option.bind_some, h.sum h2 h3 hr (by omega) (by omega) (by omega) hg, Option.bind_some, h.sum h2 h3 hr (by omega) (by omega) (by omega) hg, Option.bind_some]
  rfl
end
theorem bit1 : ∀ i, i < 8 → (1 : Int32) <<< (nI i &&& 31) = nI (2 ^ i) := by decide +kernel
theorem pow8 : ∀ i, i < 8 → 2 ^ i < 256 := by decide +kernel
theorem many_loop {mem : Nat → Int32} {l : List Nat} (hR : R16 l) (m2 : mem 2 = nI l.length) (mt : ∀ p, p < l.length → mem (19 + p) = nI (l.getD p 0)) {t : Nat} (ht : t < 16) {v1 v2 : Int32} (hv : 4 * v1 + v2 = nI t) : ∀ (k n i c : Nat), i + k = l.length → k < n → fX8_many_28 n mem v1 v2 (nI c) (nI i) = some (nI (c + (l.drop i).count t)) := by
  have hl8 := hR.2
  intro k
  induction k with
  | zero =>
    intro n i c hi hn
    obtain ⟨m, rfl, -⟩ := succ_of hn
    rw [fX8_many_28, m2, if_pos ((nI_le' (by omega) (by omega)).mpr (by omega)), List.drop_eq_nil_of_le (by omega)]
    rfl
  | succ k ih =>
    intro n i c hi hn
    obtain ⟨m, rfl, hm⟩ := succ_of hn
    have g := getD_lt12 hR i
    rw [fX8_many_28, m2, if_neg (fun q => by have := (nI_le' (by omega) (by omega)).mp q; omega), chk19 (by omega), clamp19 (by omega), mt i (by omega), hv, dropD (by omega)]
    by_cases e : l.getD i 0 = t
    · rw [if_pos (by rw [e]), fX8_many_63, lit_nI1, nI_add, nI_add, ih m (i + 1) (c + 1) (by omega) (by omega), e, List.count_cons_self]
      congr 2
      omega
    · rw [if_neg (nI_ne e (by omega) (by omega)), fX8_many_63, lit_nI1, lit_nI0, nI_add, nI_add, ih m (i + 1) (c + 0) (by omega) (by omega), List.count_cons_of_ne (fun q => e q)]
      rfl
def kc (l : List Nat) (k : Nat) : Nat := l.count (4 * k) + l.count (4 * k + 1) + l.count (4 * k + 2) + l.count (4 * k + 3)
theorem count_if (x y : Nat) (r : List Nat) : (x :: r).count y = r.count y + if x = y then 1 else 0 := by
  rw [List.count_cons]
  by_cases e : x = y
  · rw [if_pos e, if_pos (by rw [e]; exact beq_self_eq_true y)]
  · rw [if_neg e, if_neg (by intro q; exact e (eq_of_beq q))]
theorem kc_cons (t k : Nat) (r : List Nat) : kc (t :: r) k = kc r k + if t / 4 = k then 1 else 0 := by
  rw [kc, kc, count_if, count_if, count_if, count_if]
  by_cases e : t / 4 = k
  · rw [if_pos e]
    by_cases e0 : t = 4 * k
    · rw [if_pos e0, if_neg (by omega), if_neg (by omega), if_neg (by omega)]; omega
    · by_cases e1 : t = 4 * k + 1
      · rw [if_neg e0, if_pos e1, if_neg (by omega), if_neg (by omega)]; omega
      · by_cases e2 : t = 4 * k + 2
        · rw [if_neg e0, if_neg e1, if_pos e2, if_neg (by omega)]; omega
        · rw [if_neg e0, if_neg e1, if_neg e2, if_pos (by omega)]; omega
  · rw [if_neg e, if_neg (by omega), if_neg (by omega), if_neg (by omega), if_neg (by omega)]; omega
theorem kind_loop {mem : Nat → Int32} {l : List Nat} (hR : R16 l) (m2 : mem 2 = nI l.length) (mt : ∀ p, p < l.length → mem (19 + p) = nI (l.getD p 0)) {t : Nat} (ht : t < 16) : ∀ (k n i c : Nat), i + k = l.length → k < n → fX8_kind_46 n mem (nI t) (nI c) (nI i) = some (nI (c + kc (l.drop i) t)) := by
  have hl8 := hR.2
  intro k
  induction k with
  | zero =>
    intro n i c hi hn
    obtain ⟨m, rfl, -⟩ := succ_of hn
    rw [fX8_kind_46, m2, if_pos ((nI_le' (by omega) (by omega)).mpr (by omega)), List.drop_eq_nil_of_le (by omega)]
    rfl
  | succ k ih =>
    intro n i c hi hn
    obtain ⟨m, rfl, hm⟩ := succ_of hn
    have g := getD_lt12 hR i
    rw [fX8_kind_46, m2, if_neg (fun q => by have := (nI_le' (by omega) (by omega)).mp q; omega), chk19 (by omega), clamp19 (by omega), mt i (by omega), dropD (by omega), lit_nI4, idiv_nI (by omega) (by omega), kc_cons]
    by_cases e : l.getD i 0 / 4 = t
    · rw [if_pos (by rw [e]), fX8_kind_79, lit_nI1, nI_add, nI_add, ih m (i + 1) (c + 1) (by omega) (by omega), if_pos e]
      congr 2
      omega
    · rw [if_neg (nI_ne e (by omega) (by omega)), fX8_kind_79, lit_nI1, lit_nI0, nI_add, nI_add, ih m (i + 1) (c + 0) (by omega) (by omega), if_neg e]
      rfl
theorem VW.ofKind {numbers cells rows sizes rooms mem : Nat → Int32} {kn a : Nat} {l : List Nat} {rm : Nat} {nb : Nat → Int} (h : VW numbers cells rows sizes rooms mem kn a l rm nb) {k : Nat} (hk : k < 3) : fX1_pliesOfKind rows sizes (nI a) (nI k) = some (nI (kc l k)) := by
  have e : ∀ (m j c : Nat), j < 4 → fX1_pliesOfKind_4 (m + 1) rows sizes (nI a) (nI k) (nI c) (nI j) = fX1_pliesOfKind_4 m rows sizes (nI a) (nI k) (nI (c + l.count (4 * k + j))) (nI (j + 1)) := by
    intro m j c hj
    rw [fX1_pliesOfKind_4, lit_nI4, if_neg (fun q => by have := (nI_le' (by omega) (by omega)).mp q; omega), h.row, Option.bind_some, h.plies, Option.bind_some, nI_mul, nI_add, show k * 4 + j = 4 * k + j by omega, howMany_pk h.R (by omega), Option.bind_some, nI_add, lit_nI1, nI_add]
  obtain ⟨n, hn⟩ := FU_10
  rw [fX1_pliesOfKind, lit_nI0, show fX1_pliesOfKind_4 FU = fX1_pliesOfKind_4 (n + 6 + 1 + 1 + 1 + 1) by rw [hn], e _ 0 _ (by omega), e _ 1 _ (by omega), e _ 2 _ (by omega), e _ 3 _ (by omega), fX1_pliesOfKind_4, lit_nI4, if_pos ((nI_le' (by omega) (by omega)).mpr (by omega)), kc]
  simp only [Nat.add_zero, Nat.zero_add]
theorem le4_iff (x : Int32) : x ≤ (4 : Int32) ↔ x.toInt ≤ 4 := Int32.le_iff_toInt_le
theorem le5_iff (x : Int32) : x ≤ (5 : Int32) ↔ x.toInt ≤ 5 := Int32.le_iff_toInt_le
theorem le2_iff (x : Int32) : x ≤ (2 : Int32) ↔ x.toInt ≤ 2 := Int32.le_iff_toInt_le
theorem le1_iff (x : Int32) : x ≤ (1 : Int32) ↔ x.toInt ≤ 1 := Int32.le_iff_toInt_le
theorem le3_iff (x : Int32) : x ≤ (3 : Int32) ↔ x.toInt ≤ 3 := Int32.le_iff_toInt_le
theorem mIn5 (x : Int32) : fX8_in x.toInt64 0 5 = if 0 ≤ x.toInt ∧ x.toInt ≤ 5 then 1 else 0 := by
  rw [in_spec]
  rfl
theorem mIn4 (x : Int32) : fX8_in x.toInt64 0 4 = if 0 ≤ x.toInt ∧ x.toInt ≤ 4 then 1 else 0 := by
  rw [in_spec]
  rfl
theorem mIn1 (x : Int32) : fX8_in x.toInt64 0 1 = if 0 ≤ x.toInt ∧ x.toInt ≤ 1 then 1 else 0 := by
  rw [in_spec]
  rfl
theorem nn0 {x : Int32} (c : 0 ≤ x.toInt) : (x < 0) = False := eq_false (fun q => by have := (lt0_iff x).mp q; omega)
theorem out_lo {β : Type} {x : Int32} {K : Int32} {k : Int} (hK : ∀ y : Int32, y ≤ K ↔ y.toInt ≤ k) (c : ¬ (0 ≤ x.toInt ∧ x.toInt ≤ k)) {a b : Option β} : (if x < 0 then a else (if x ≤ K then b else a)) = a := by
  by_cases d : x < 0
  · rw [if_pos d]
  · rw [if_neg d, if_neg]
    rw [hK]
    have : ¬ x.toInt < 0 := fun q => d ((lt0_iff x).mpr q)
    omega
theorem lit_ne (x : Int32) {K : Int32} (h : x.toInt ≠ K.toInt) : (x = K) = False := eq_false (fun q => h (by rw [q]))
theorem cNumber {numbers cells rows sizes rooms mem : Nat → Int32} {kn a : Nat} {l : List Nat} {rm : Nat} {nb : Nat → Int} (h : VW numbers cells rows sizes rooms mem kn a l rm nb) {i j : Nat} (hi : i < kn) (hj : j < 5) : fX1_number numbers (nI i) (nI j) = some (i32 (nb (5 * i + j))) := by
  have k3 := h.kn3
  rw [fX1_number, if_neg (fun q => by have := (lt_nI (n := 0) (by omega)).mp q; rw [nI_int (by omega)] at this; omega), lit_nI3, if_neg (fun q => by have := (nI_le' (by omega) (by omega)).mp q; omega), if_neg (fun q => by have := (lt_nI (n := 0) (by omega)).mp q; rw [nI_int (by omega)] at this; omega), lit_nI4, if_pos ((nI_le' (by omega) (by omega)).mpr (by omega)), lit_nI5, nI_mul, nI_add, chkN (by omega) (by omega), nI_clamp' (by omega), h.num _ (by omega)]
theorem nI_s (i : Nat) : nI i + 1 = nI (i + 1) := by rw [lit_nI1, nI_add]
def LV (nb : Nat → Int) (l : List Nat) (w i : Nat) : Int64 := if w = 2 then wz (TG nb l (2 ^ i) 1) else if w = 0 then TG nb l (2 ^ i) 2 0 else TG nb l (2 ^ i) 0 0
section
variable {numbers cells rows sizes rooms mem : Nat → Int32} {kn a : Nat} {l : List Nat} {rm : Nat} {nb : Nat → Int}
theorem VW.left (h : VW numbers cells rows sizes rooms mem kn a l rm nb) {i w : Nat} (hi : i < 8) (hw : w < 3) : fX7_leftWithout cells rows sizes (nI a) (nI i) (nI w) = some (LV nb l w i) := by
  have g := pow8 i hi
  rw [fX7_leftWithout, bit1 i hi, LV]
  have hw' : w = 0 ∨ w = 1 ∨ w = 2 := by omega
  rcases hw' with rfl | rfl | rfl
  · rw [if_neg (show ¬ nI 0 = 2 by decide), if_pos (show nI 0 = 0 from rfl), fX7_leftWithout_32, lit_nI2, lit_nI0, h.total (by omega) (by omega) g, Option.bind_some]
    rfl
  · rw [if_neg (show ¬ nI 1 = 2 by decide), if_neg (show ¬ nI 1 = 0 by decide), fX7_leftWithout_32, lit_nI0, h.total (by omega) (by omega) g, Option.bind_some]
    rfl
  · rw [if_pos (show nI 2 = 2 from rfl), h.warpC g, Option.bind_some]
    rfl
theorem VW.lostBy (h : VW numbers cells rows sizes rooms mem kn a l rm nb) {row : Nat → Int32} (hr : RW row l) {i w : Nat} (hi : i < 8) (hw : w < 3) (lost : Int32) : fX8_lostBy mem row (nI l.length) lost (nI i) (nI w) = some (LV nb l w i, nI (2 ^ i)) := by
  have g := pow8 i hi
  rw [fX8_lostBy, bit1 i hi, LV]
  have hw' : w = 0 ∨ w = 1 ∨ w = 2 := by omega
  rcases hw' with rfl | rfl | rfl
  · rw [if_pos (show nI 0 = 0 from rfl), lit_nI2, lit_nI0, h.sum h.R h.lt hr (by omega) (by omega) (by omega) g, Option.bind_some]
    rfl
  · rw [if_neg (show ¬ nI 1 = 0 by decide), if_pos (show nI 1 = 1 from rfl), lit_nI0, h.sum h.R h.lt hr (by omega) (by omega) (by omega) g, Option.bind_some]
    rfl
  · rw [if_neg (show ¬ nI 2 = 0 by decide), if_neg (show ¬ nI 2 = 1 by decide), h.warpM h.R h.lt hr g, Option.bind_some]
    rfl
theorem VW.tg_bd (h : VW numbers cells rows sizes rooms mem kn a l rm nb) {l2 : List Nat} (h2 : R16 l2) (h3 : ∀ t ∈ l2, t < 4 * kn) {c : Nat} (hc : c < 9) (g w : Nat) : -710400 ≤ totG (ceQ nb) l2.length w c g 0 l2 ∧ totG (ceQ nb) l2.length w c g 0 l2 ≤ 710400 := by
  have q := totG_le (ce := ceQ nb) (n := l2.length) (w := w) (c := c) (g := g) (B := 600) h2.2 l2 0 (by omega) (fun t ht => by rw [ceQ_at nb hc]; exact qe_bd h.nbs (h3 t ht) c)
  have l8 := h2.2
  have e : 148 * 600 * l2.length ≤ 710400 := by omega
  omega
theorem VW.tg_int (h : VW numbers cells rows sizes rooms mem kn a l rm nb) {l2 : List Nat} (h2 : R16 l2) (h3 : ∀ t ∈ l2, t < 4 * kn) {c : Nat} (hc : c < 9) (g w : Nat) : (TG nb l2 g w c).toInt = totG (ceQ nb) l2.length w c g 0 l2 := by
  have := h.tg_bd h2 h3 hc g w
  exact i64_int ⟨by omega, by omega⟩
theorem neg_le64 {x y : Int64} (hx : -710400 ≤ x.toInt ∧ x.toInt ≤ 710400) (hy : -710400 ≤ y.toInt ∧ y.toInt ≤ 710400) : -x ≤ -y ↔ y ≤ x := by
  have ex : -x = i64 (-x.toInt) := by rw [i64_neg, i64_of]
  have ey : -y = i64 (-y.toInt) := by rw [i64_neg, i64_of]
  rw [ex, ey, i64_le ⟨by omega, by omega⟩ ⟨by omega, by omega⟩, Int64.le_iff_toInt_le]
  omega
theorem VW.lv_bd (h : VW numbers cells rows sizes rooms mem kn a l rm nb) {w : Nat} (hw : w ≠ 2) (i : Nat) : -710400 ≤ (LV nb l w i).toInt ∧ (LV nb l w i).toInt ≤ 710400 := by
  rw [LV, if_neg hw]
  by_cases c : w = 0
  · rw [if_pos c, h.tg_int h.R h.lt (by omega)]
    exact h.tg_bd h.R h.lt (by omega) _ _
  · rw [if_neg c, h.tg_int h.R h.lt (by omega)]
    exact h.tg_bd h.R h.lt (by omega) _ _
def KVw (nb : Nat → Int) (l : List Nat) (w i : Nat) : Int64 := if w = 2 then LV nb l w i else - LV nb l w i
theorem m1_ne {b : Nat} (h : b < 2147483648) : ¬ nI b = -1 := by
  intro q
  have e := congrArg Int32.toInt q
  rw [nI_int h] at e
  have : (-1 : Int32).toInt = -1 := by decide
  omega
theorem VW.worst (h : VW numbers cells rows sizes rooms mem kn a l rm nb) {row : Nat → Int32} (hr : RW row l) {w : Nat} (hw : w < 3) : ∀ (k n m i b : Nat) (lost : Int32), i + k = l.length → b < l.length → k < n → k < m → ∃ (r : Int32) (lost' : Int32), fX7_worst_29 n cells rows sizes (nI a) (nI w) (nI b) (KVw nb l w b) (nI i) = some r ∧ fX8_worst_30 m mem row (nI l.length) lost (nI w) (nI b) (nI i) = some (r, row, nI l.length, lost') := by
  have l8 := h.len
  intro k
  induction k with
  | zero =>
    intro n m i b lost hi hb hn hm
    obtain ⟨n, rfl, -⟩ := succ_of hn
    obtain ⟨m, rfl, -⟩ := succ_of hm
    have q := (nI_le' (a := l.length) (b := i) (by omega) (by omega)).mpr (by omega)
    exact ⟨nI b, lost, by rw [fX7_worst_29, h.plies, Option.bind_some, if_pos q], by rw [fX8_worst_30, if_pos q]⟩
  | succ k ih =>
    intro n m i b lost hi hb hn hm
    obtain ⟨n, rfl, hn'⟩ := succ_of hn
    obtain ⟨m, rfl, hm'⟩ := succ_of hm
    have q : ¬ nI l.length ≤ nI i := fun q => by have := (nI_le' (by omega) (by omega)).mp q; omega
    have nb1 : ¬ nI b = -1 := m1_ne (by omega)
    rw [fX7_worst_29, h.plies, Option.bind_some, if_neg q, h.left (by omega) hw, Option.bind_some, fX8_worst_30, if_neg q, if_neg nb1]
    simp only [h.lostBy hr (show i < 8 by omega) hw, h.lostBy hr (show b < 8 by omega) hw, ob2_some, fX7_worst_63, fX7_worst_83, fX7_worst_77, fX8_worst_85, fX8_worst_83, if_neg nb1, nI_s]
    by_cases c : w = 2
    · subst c
      rw [if_pos (show nI 2 = 2 from rfl), if_pos (show nI 2 = 2 from rfl)]
      by_cases d : lg_cmp (LV nb l 2 i) (LV nb l 2 b) ≤ 0
      · rw [show KVw nb l 2 b = LV nb l 2 b from rfl, if_pos d, if_pos d]
        exact ih n m (i + 1) b _ (by omega) hb (by omega) (by omega)
      · rw [show KVw nb l 2 b = LV nb l 2 b from rfl, if_neg d, if_neg d]
        exact ih n m (i + 1) i _ (by omega) (by omega) (by omega) (by omega)
    · have c' : ¬ nI w = 2 := nI_ne (b := 2) c (by omega) (by omega)
      rw [if_neg c', if_neg c']
      have ek : ∀ j, KVw nb l w j = - LV nb l w j := fun j => if_neg c
      have e : (lg_cmp (-LV nb l w i) (KVw nb l w b) ≤ 0) ↔ (0 ≤ lg_cmp (LV nb l w i) (LV nb l w b)) := by
        rw [ek, lg_cmp_le, lg_cmp_ge]
        exact neg_le64 (h.lv_bd c i) (h.lv_bd c b)
      by_cases d : 0 ≤ lg_cmp (LV nb l w i) (LV nb l w b)
      · rw [if_pos d, if_pos (e.mpr d)]
        exact ih n m (i + 1) b _ (by omega) hb (by omega) (by omega)
      · rw [if_neg d, if_neg (fun q => d (e.mp q)), ← ek]
        exact ih n m (i + 1) i _ (by omega) (by omega) (by omega) (by omega)
end
