/-! the class lays all rows -/
theorem lN_bv (n : Nat) : (lN n).toBitVec = BitVec.ofNat 64 n := rfl
theorem lbv_ext {x y : Int64} (h : ∀ i, i < 64 → x.toBitVec.getLsbD i = y.toBitVec.getLsbD i) : x = y :=
  Int64.toBitVec.inj (BitVec.eq_of_getLsbD_eq h)
theorem lN_bit (n i : Nat) (hi : i < 64) : (lN n).toBitVec.getLsbD i = n.testBit i := by
  rw [lN_bv, BitVec.getLsbD_ofNat]
  simp [hi]
theorem lshl_bv (x : Int64) : (lshl x 32).toBitVec = x.toBitVec <<< 32 := by
  have h1 : ((32 : Int32).toInt64 &&& 63).toBitVec.smod 64 = 32#64 := by decide
  unfold lshl
  rw [Int64.toBitVec_shiftLeft, h1]
  rfl
theorem lushr_bv (x : Int64) : (lushr x 32).toBitVec = x.toBitVec >>> 32 := by
  have h1 : ((32 : Int32).toInt64.toUInt64 &&& Int64.toUInt64 63).toBitVec % 64 = 32#64 := by decide
  unfold lushr
  show (x.toUInt64 >>> ((32 : Int32).toInt64.toUInt64 &&& Int64.toUInt64 63)).toBitVec = _
  rw [UInt64.toBitVec_shiftRight, h1]
  rfl
/-- a row with what it is, in one number -/
def eN (x : List Nat) (s : Nat) : Nat := 4294967296 * s + pkN x
def enc (ce : Nat → Int) (x : List Nat) : Int64 := i64 ((pkN x : Int) + 4294967296 * (shp ce x))
theorem enc_lN (ce : Nat → Int) (x : List Nat) : enc ce x = lN (eN x (shp ce x)) := by
  unfold enc eN
  rw [lN_i64]
  congr 1
  omega
theorem eN_bit {x : List Nat} (h : R16 x) {s i : Nat} : (eN x s).testBit i = if i < 32 then (pkN x).testBit i else s.testBit (i - 32) := by
  have b : pkN x < 2 ^ 32 := by
    have := pkN_lt x h.lt
    have h2 : 16 ^ x.length ≤ 16 ^ 8 := Nat.pow_le_pow_right (by decide) h.2
    omega
  unfold eN
  rw [show (4294967296 : Nat) = 2 ^ 32 from rfl, Nat.testBit_two_pow_mul_add _ b]
theorem pk_bit2 {x : List Nat} {i : Nat} (hi : i < 32) : (pk x).toBitVec.getLsbD i = (pkN x).testBit i := nI_bit (pkN x) i hi
theorem enc_store {x : List Nat} (h : R16 x) {s : Nat} (hs : s < 8) : ((pk x).toInt64 &&& 4294967295) ||| lshl (nI s).toInt64 32 = lN (eN x s) := by
  apply lbv_ext
  intro i hi
  have m1 : ∀ i, i < 64 → (4294967295 : Int64).toBitVec.getLsbD i = decide (i < 32) := by decide +kernel
  rw [Int64.toBitVec_or, BitVec.getLsbD_or, Int64.toBitVec_and, BitVec.getLsbD_and, m1 i hi, lshl_bv, BitVec.getLsbD_shiftLeft, lN_bit _ _ hi, eN_bit h, nI64 (by omega)]
  by_cases c : i < 32
  · rw [if_pos c, decide_eq_true c, Bool.and_true, show (pk x).toInt64.toBitVec = (pk x).toBitVec.signExtend 64 from rfl, BitVec.getLsbD_signExtend, pk_bit2 c]
    simp [hi, c]
  · rw [if_neg c, decide_eq_false c, Bool.and_false, Bool.false_or, lN_bit _ _ (by omega)]
    simp [hi]
theorem enc_row {x : List Nat} (h : R16 x) (s : Nat) : (lN (eN x s)).toInt32 = pk x := by
  apply bv_ext
  intro i hi
  rw [Int64.toBitVec_toInt32, BitVec.getLsbD_signExtend, if_pos (show i < 64 by omega), lN_bit _ _ (by omega), eN_bit h, if_pos hi, pk_bit2 hi]
  simp [hi]
theorem enc_shape {x : List Nat} (h : R16 x) {s : Nat} (hs : s < 8) : (lushr (lN (eN x s)) 32).toInt32 = nI s := by
  apply bv_ext
  intro i hi
  rw [Int64.toBitVec_toInt32, BitVec.getLsbD_signExtend, if_pos (show i < 64 by omega), lushr_bv, BitVec.getLsbD_ushiftRight, lN_bit _ _ (by omega), eN_bit h, if_neg (by omega), nI_bit _ _ hi, show 32 + i - 32 = i by omega]
  simp [hi]
theorem shp_lt (ce : Nat → Int) (x : List Nat) : shp ce x < 8 := by
  unfold shp
  repeat' split
  all_goals omega
theorem or_nI (x y : Nat) : nI x ||| nI y = nI (x ||| y) := by
  apply bv_ext
  intro i hi
  rw [Int32.toBitVec_or, BitVec.getLsbD_or, nI_bit _ _ hi, nI_bit _ _ hi, nI_bit _ _ hi, Nat.testBit_or]
/-- plies that aren't taken -/
def unt (g : Nat) : Nat → List Nat → List Nat
  | _, [] => []
  | i, t :: r => if g.testBit i then unt g (i + 1) r else t :: unt g (i + 1) r
theorem unt_mem (g : Nat) : ∀ (l : List Nat) (i x : Nat), x ∈ unt g i l → x ∈ l
  | [], _, _, h => by simp [unt] at h
  | t :: r, i, x, h => by
    unfold unt at h
    by_cases c : g.testBit i = true
    · rw [if_pos c] at h
      exact List.mem_cons_of_mem _ (unt_mem g r (i + 1) x h)
    · rw [if_neg c] at h
      rcases List.mem_cons.mp h with q | q
      · rw [q]; exact List.mem_cons_self
      · exact List.mem_cons_of_mem _ (unt_mem g r (i + 1) x q)
theorem unt_congr {g g2 : Nat} : ∀ (l : List Nat) (i : Nat), (∀ j, i ≤ j → g.testBit j = g2.testBit j) → unt g i l = unt g2 i l
  | [], _, _ => rfl
  | t :: r, i, h => by
    unfold unt
    rw [h i (Nat.le_refl _), unt_congr r (i + 1) (fun j hj => h j (by omega))]
theorem or_bit (g k i : Nat) : (g ||| 2 ^ k).testBit i = (g.testBit i || decide (k = i)) := by
  rw [Nat.testBit_or, Nat.testBit_two_pow]
theorem unt_or {g k : Nat} (hg : g.testBit k = false) (x : Nat) : ∀ (l : List Nat) (i : Nat), i ≤ k → k < i + l.length → (unt g i l).count x = (unt (g ||| 2 ^ k) i l).count x + if l.getD (k - i) 0 = x then 1 else 0
  | [], i, h1, h2 => by simp at h2; omega
  | t :: r, i, h1, h2 => by
    unfold unt
    rw [or_bit]
    by_cases e : k = i
    · subst e
      rw [hg, if_neg (by decide), Bool.false_or, decide_eq_true rfl, if_pos rfl, Nat.sub_self, count_if, unt_congr (g2 := g ||| 2 ^ k) r (k + 1) (fun j hj => by rw [or_bit, decide_eq_false (by omega), Bool.or_false])]
      rfl
    · rw [decide_eq_false e, Bool.or_false]
      have ih := unt_or hg x r (i + 1) (by omega) (by simp at h2; omega)
      have e2 : (t :: r).getD (k - i) 0 = r.getD (k - (i + 1)) 0 := by rw [show k - i = (k - (i + 1)) + 1 by omega]; rfl
      rw [e2]
      by_cases c : g.testBit i = true
      · rw [if_pos c, if_pos c]; exact ih
      · rw [if_neg c, if_neg c, count_if, count_if, ih]; omega
theorem tot_cells {ce ce2 : Nat → Int} (n w c : Nat) : ∀ (l : List Nat) (k : Nat), (∀ t ∈ l, ce (9 * t + c) = ce2 (9 * t + c)) → tot ce n w c k l = tot ce2 n w c k l
  | [], _, _ => rfl
  | t :: l, k, h => by rw [tot, tot, h t List.mem_cons_self, tot_cells n w c l (k + 1) (fun x hx => h x (List.mem_cons_of_mem _ hx))]
theorem shp_cells {ce ce2 : Nat → Int} {l : List Nat} (h : ∀ t ∈ l, ∀ c, c < 9 → ce (9 * t + c) = ce2 (9 * t + c)) : shp ce l = shp ce2 l := by
  have e : ∀ w c, c < 9 → tot ce l.length w c 0 l = tot ce2 l.length w c 0 l := fun w c hc => tot_cells _ w c l 0 (fun t ht => h t ht c hc)
  have e1 : isFla ce l = isFla ce2 l := by
    unfold isFla
    rw [List.all_cons, List.all_cons, List.all_cons, List.all_cons, List.all_cons, List.all_nil, e 1 0 (by omega), e 1 1 (by omega), e 1 2 (by omega), e 1 4 (by omega), e 1 8 (by omega)]
    rfl
  have e2 : isStr ce l = isStr ce2 l := by
    unfold isStr
    rw [e 0 2 (by omega), e 2 2 (by omega)]
  unfold shp
  rw [e1, e2]
section
variable {numbers cells rows sizes rooms mem : Nat → Int32} {kn a : Nat} {l : List Nat} {rm : Nat} {nb : Nat → Int}
theorem VW.cells_int (h : VW numbers cells rows sizes rooms mem kn a l rm nb) {t c : Nat} (ht : t < 4 * kn) (hc : c < 9) : (cells (9 * t + c)).toInt = ceQ nb (9 * t + c) := by
  rw [h.ce t ht c hc]
  have := qe_bd h.nbs ht c
  rw [ceQ_at nb hc]
  exact i32_int ⟨by omega, by omega⟩
theorem VW.shp_c (h : VW numbers cells rows sizes rooms mem kn a l rm nb) {x : List Nat} (hx : ∀ t ∈ x, t < 4 * kn) : shp (fun q => (cells q).toInt) x = shp (ceQ nb) x := shp_cells (fun t ht c hc => h.cells_int (hx t ht) hc)
theorem VW.shapeOf (h : VW numbers cells rows sizes rooms mem kn a l rm nb) {x : List Nat} (hR : R16 x) (h3 : ∀ t ∈ x, t < 4 * kn) : fX0_shapeOf (nI x.length) cells (pk x) (i32 (tot (ceQ nb) x.length 1 0 0 x)) (i32 (tot (ceQ nb) x.length 2 2 0 x)) = some (nI (shp (ceQ nb) x)) := by
  have b1 := h.bd0 hR h3 1 (c := 0) (by omega)
  have b2 := h.bd0 hR h3 2 (c := 2) (by omega)
  have w0 : i32 (tot (ceQ nb) x.length 1 0 0 x) = 0 ↔ tot (ceQ nb) x.length 1 0 0 x = 0 := i32_eq (b := 0) ⟨by omega, by omega⟩ ⟨by omega, by omega⟩
  have t0 : i32 (tot (ceQ nb) x.length 2 2 0 x) = 0 ↔ tot (ceQ nb) x.length 2 2 0 x = 0 := i32_eq (b := 0) ⟨by omega, by omega⟩ ⟨by omega, by omega⟩
  have fw : isFla (ceQ nb) x = true → tot (ceQ nb) x.length 1 0 0 x = 0 := fun q => by
    unfold isFla at q
    rw [List.all_eq_true] at q
    exact eq_of_beq (q 0 (by simp))
  have ft : isStr (ceQ nb) x = true → tot (ceQ nb) x.length 2 2 0 x = 0 := fun q => by
    unfold isStr at q
    rw [Bool.and_eq_true] at q
    exact eq_of_beq q.2
  have s45 : ∀ v : Nat, fX0_shapeOf_45 (nI x.length) cells (pk x) (i32 (tot (ceQ nb) x.length 2 2 0 x)) (nI v) = some (if isStr (ceQ nb) x then nI v ||| 4 else nI v) := by
    intro v
    rw [fX0_shapeOf_45, h.strC hR h3, Option.bind_some]
    cases c : isStr (ceQ nb) x with
    | true => rw [if_pos (t0.mpr (ft c)), if_neg (show ¬ b32 true = 0 by decide), if_pos rfl]
    | false =>
      rw [if_pos (show b32 false = 0 from rfl), if_neg (show ¬ false = true by decide)]
      split <;> rfl
  rw [fX0_shapeOf, cMir hR, Option.bind_some, shp]
  cases cm : isMir x with
  | true =>
    rw [if_neg (show ¬ b32 true = 0 by decide), fX0_shapeOf_16, if_neg (by decide), fX0_shapeOf_39, show (1 : Int32) ||| 2 = nI 3 by decide, s45, mir_fla (ceQ nb) cm]
    cases isStr (ceQ nb) x <;> rfl
  | false =>
    rw [if_pos (show b32 false = 0 from rfl), fX0_shapeOf_16, if_pos rfl, h.flatC hR h3, Option.bind_some, fX0_shapeOf_39, show (0 : Int32) ||| 2 = nI 2 by decide, s45, show (0 : Int32) = nI 0 from rfl, s45]
    cases cf : isFla (ceQ nb) x with
    | true =>
      rw [if_pos (show i32 (tot (ceQ nb) x.length 1 0 0 x) = nI 0 from w0.mpr (fw cf)), if_neg (show ¬ b32 true = nI 0 by decide)]
      cases isStr (ceQ nb) x <;> rfl
    | false =>
      rw [if_pos (show b32 false = nI 0 from rfl)]
      cases isStr (ceQ nb) x <;> (split <;> rfl)
theorem VW.cellC (h : VW numbers cells rows sizes rooms mem kn a l rm nb) {t c : Nat} (ht : t < 4 * kn) (hc : c < 9) : fX1_cellAt cells (nI t) (nI c) = some (i32 (ceQ nb (9 * t + c))) := by
  have k3 := h.kn3
  have e : ∀ t, t < 12 → nI t &&& 15 = nI t := by decide +kernel
  rw [fX1_cellAt, if_neg (nI_nn0 (by omega)), if_pos (show nI c ≤ 8 from (nI_le' (b := 8) (by omega) (by omega)).mpr (by omega)), e t (by omega), lit_nI9, nI_mul, nI_add, chkN (by omega) (by omega), nI_clamp' (by omega), Nat.mul_comm t 9, h.ce t ht c hc]
theorem nn_ok {β : Type} {lim n : Nat} {t : Option β} (h : n ≤ lim) (hn : n ≤ 60000000) : nn lim (nI n) t = t := by
  unfold nn
  rw [if_neg]
  rw [nI_clamp' (by omega)]
  intro q
  rcases q with q | q | q
  · have := (lt_nI (x := nI n) (n := 0) (by omega)).mp q
    rw [nI_int (by omega)] at this
    omega
  · omega
  · omega
end
