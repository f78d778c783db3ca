/-! Rows of types in one number, bit by bit. -/
theorem iushr_bv (x : Int32) {k : Nat} (h : k < 32) : (iushr x (nI k)).toBitVec = x.toBitVec >>> k := by
  have h1 : ∀ k, k < 32 → ((nI k).toUInt32 &&& Int32.toUInt32 31).toBitVec % 32 = BitVec.ofNat 32 k := by decide +kernel
  unfold iushr
  show (x.toUInt32 >>> ((nI k).toUInt32 &&& Int32.toUInt32 31)).toBitVec = _
  rw [UInt32.toBitVec_shiftRight, h1 k h, BitVec.ushiftRight_eq', BitVec.toNat_ofNat, Nat.mod_eq_of_lt (by omega)]
  rfl
theorem ishl_bv (x : Int32) {k : Nat} (h : k < 32) : (x <<< (nI k &&& 31)).toBitVec = x.toBitVec <<< k := by
  have h1 : ∀ k, k < 32 → (nI k &&& 31).toBitVec.smod 32 = BitVec.ofNat 32 k := by decide +kernel
  rw [Int32.toBitVec_shiftLeft, h1 k h, BitVec.shiftLeft_eq', BitVec.toNat_ofNat, Nat.mod_eq_of_lt (by omega)]
theorem ishr_bv (x : Int32) {k : Nat} (h : k < 32) : (x >>> (nI k &&& 31)).toBitVec = x.toBitVec.sshiftRight k := by
  have h1 : ∀ k, k < 32 → (nI k &&& 31).toBitVec.smod 32 = BitVec.ofNat 32 k := by decide +kernel
  rw [Int32.toBitVec_shiftRight, h1 k h]
  show x.toBitVec.sshiftRight (BitVec.ofNat 32 k).toNat = _
  rw [BitVec.toNat_ofNat, Nat.mod_eq_of_lt (by omega)]
theorem nI_bv (n : Nat) : (nI n).toBitVec = BitVec.ofNat 32 n := rfl
theorem bv_ext {x y : Int32} (h : ∀ i, i < 32 → x.toBitVec.getLsbD i = y.toBitVec.getLsbD i) : x = y :=
  Int32.toBitVec.inj (BitVec.eq_of_getLsbD_eq h)
theorem nI_bit (n i : Nat) (hi : i < 32) : (nI n).toBitVec.getLsbD i = n.testBit i := by
  rw [nI_bv, BitVec.getLsbD_ofNat]
  simp [hi]
theorem pkN_bit : ∀ (l : List Nat), (∀ t ∈ l, t < 16) → ∀ i, (pkN l).testBit i = (l.getD (i / 4) 0).testBit (i % 4)
  | [], _, i => by simp [pkN]
  | t :: l, h, i => by
    have ht : t < 2 ^ 4 := h t (List.mem_cons_self)
    have ih := pkN_bit l (fun x hx => h x (List.mem_cons_of_mem _ hx))
    show (t + 16 * pkN l).testBit i = _
    rw [Nat.add_comm, show (16 : Nat) = 2 ^ 4 from rfl, Nat.testBit_two_pow_mul_add _ ht]
    by_cases hi : i < 4
    · rw [if_pos hi, Nat.div_eq_of_lt hi, Nat.mod_eq_of_lt hi]
      rfl
    · rw [if_neg hi, ih]
      have e1 : i / 4 = (i - 4) / 4 + 1 := by omega
      have e2 : i % 4 = (i - 4) % 4 := by omega
      rw [e1, e2]
      rfl
theorem pk_bit {l : List Nat} (h : ∀ t ∈ l, t < 16) {i : Nat} (hi : i < 32) : (pk l).toBitVec.getLsbD i = (l.getD (i / 4) 0).testBit (i % 4) := by
  have := nI_bit (pkN l) i hi
  rw [pkN_bit l h] at this
  exact this
theorem testBit_lt {t i k : Nat} (h : t < 2 ^ k) (hi : k ≤ i) : t.testBit i = false := Nat.testBit_lt_two_pow (Nat.lt_of_lt_of_le h (Nat.pow_le_pow_right (by decide) hi))
theorem getD_lt16 {l : List Nat} (h : ∀ t ∈ l, t < 16) (k : Nat) : l.getD k 0 < 16 := by
  rw [List.getD_eq_getElem?_getD]
  cases hk : l[k]? with
  | none => simp
  | some x => exact h x (List.mem_of_getElem? hk)
theorem getD_app_l {l r : List Nat} {k : Nat} (h : k < l.length) : (l ++ r).getD k 0 = l.getD k 0 := by
  rw [List.getD_eq_getElem?_getD, List.getD_eq_getElem?_getD, List.getElem?_append_left h]
theorem getD_app_end {l : List Nat} {t : Nat} : (l ++ [t]).getD l.length 0 = t := by
  rw [List.getD_eq_getElem?_getD, List.getElem?_append_right (Nat.le_refl _), Nat.sub_self]
  rfl
/-- a place of a row -/
theorem pk_at {l : List Nat} (h : ∀ t ∈ l, t < 16) {k : Nat} (hk : k < 8) : iushr (pk l) (nI (4 * k)) &&& 15 = nI (l.getD k 0) := by
  apply bv_ext
  intro i hi
  have h15 : (15 : Int32).toBitVec.getLsbD i = decide (i < 4) := by
    have : ∀ i, i < 32 → (15 : Int32).toBitVec.getLsbD i = decide (i < 4) := by decide +kernel
    exact this i hi
  rw [Int32.toBitVec_and, BitVec.getLsbD_and, iushr_bv _ (by omega), BitVec.getLsbD_ushiftRight, h15, nI_bit _ _ hi]
  by_cases h4 : i < 4
  · rw [pk_bit h (by omega)]
    have e1 : (4 * k + i) / 4 = k := by omega
    have e2 : (4 * k + i) % 4 = i := by omega
    rw [e1, e2]
    simp [h4]
  · simp only [h4, decide_false, Bool.and_false]
    exact (testBit_lt (k := 4) (getD_lt16 h k) (by omega)).symm
theorem pk_ang {l : List Nat} (h : ∀ t ∈ l, t < 16) {k : Nat} (hk : k < 8) : iushr (pk l) (nI (4 * k)) &&& 3 = nI (l.getD k 0 % 4) := by
  apply bv_ext
  intro i hi
  have h3 : (3 : Int32).toBitVec.getLsbD i = decide (i < 2) := by
    have : ∀ i, i < 32 → (3 : Int32).toBitVec.getLsbD i = decide (i < 2) := by decide +kernel
    exact this i hi
  rw [Int32.toBitVec_and, BitVec.getLsbD_and, iushr_bv _ (by omega), BitVec.getLsbD_ushiftRight, h3, nI_bit _ _ hi]
  have hm : (l.getD k 0 % 4).testBit i = (decide (i < 2) && (l.getD k 0).testBit i) := by
    rw [show (4 : Nat) = 2 ^ 2 from rfl, Nat.testBit_mod_two_pow]
  rw [hm]
  by_cases h4 : i < 2
  · rw [pk_bit h (by omega)]
    have e1 : (4 * k + i) / 4 = k := by omega
    have e2 : (4 * k + i) % 4 = i := by omega
    rw [e1, e2]
    simp [h4]
  · simp [h4]
/-- one more on top -/
theorem pk_push {l : List Nat} (h : ∀ t ∈ l, t < 16) {t : Nat} (ht : t < 16) (hl : l.length < 8) : pk l ||| (nI t <<< (nI (4 * l.length) &&& 31)) = pk (l ++ [t]) := by
  apply bv_ext
  intro i hi
  have h2 : ∀ x ∈ l ++ [t], x < 16 := by
    intro x hx
    rcases List.mem_append.mp hx with q | q
    · exact h x q
    · rw [List.mem_singleton.mp q]; exact ht
  rw [Int32.toBitVec_or, BitVec.getLsbD_or, ishl_bv _ (by omega), BitVec.getLsbD_shiftLeft, pk_bit h hi, pk_bit h2 hi]
  by_cases c : i < 4 * l.length
  · have hq : i / 4 < l.length := by omega
    rw [getD_app_l hq]
    simp [c]
  · have hd : l.getD (i / 4) 0 = 0 := by
      rw [List.getD_eq_getElem?_getD, List.getElem?_eq_none (by omega)]
      rfl
    rw [hd, Nat.zero_testBit, Bool.false_or, nI_bit _ _ (by omega)]
    have hr : (l ++ [t]).getD (i / 4) 0 = if i / 4 = l.length then t else 0 := by
      by_cases e : i / 4 = l.length
      · rw [if_pos e, e, getD_app_end]
      · rw [if_neg e, List.getD_eq_getElem?_getD, List.getElem?_eq_none (by simp; omega)]
        rfl
    rw [hr]
    by_cases e : i / 4 = l.length
    · rw [if_pos e]
      have e2 : i - 4 * l.length = i % 4 := by omega
      rw [e2]
      simp [c, hi]
    · rw [if_neg e, Nat.zero_testBit]
      have : t.testBit (i - 4 * l.length) = false := testBit_lt (k := 4) (by omega) (by omega)
      simp [this]
/-- another type at a place -/
theorem pk_with {l : List Nat} (h : ∀ t ∈ l, t < 16) {k t : Nat} (ht : t < 16) (hk : k < l.length) (hl : l.length ≤ 8) : (pk l &&& ((15 : Int32) <<< (nI (4 * k) &&& 31) ^^^ -1)) ||| (nI t <<< (nI (4 * k) &&& 31)) = pk (l.set k t) := by
  apply bv_ext
  intro i hi
  have h2 : ∀ x ∈ l.set k t, x < 16 := by
    intro x hx
    rcases List.mem_or_eq_of_mem_set hx with q | q
    · exact h x q
    · rw [q]; exact ht
  have hm : (-1 : Int32).toBitVec.getLsbD i = true := by
    have : ∀ i, i < 32 → (-1 : Int32).toBitVec.getLsbD i = true := by decide +kernel
    exact this i hi
  have h15 : ∀ j, j < 32 → (15 : Int32).toBitVec.getLsbD j = decide (j < 4) := by decide +kernel
  rw [Int32.toBitVec_or, BitVec.getLsbD_or, Int32.toBitVec_and, BitVec.getLsbD_and, Int32.toBitVec_xor, BitVec.getLsbD_xor, hm, ishl_bv _ (by omega), ishl_bv _ (by omega), BitVec.getLsbD_shiftLeft, BitVec.getLsbD_shiftLeft, pk_bit h hi, pk_bit h2 hi, h15 _ (by omega), nI_bit _ _ (by omega)]
  have hg : (l.set k t).getD (i / 4) 0 = if k = i / 4 then t else l.getD (i / 4) 0 := by
    rw [List.getD_eq_getElem?_getD, List.getD_eq_getElem?_getD, List.getElem?_set]
    by_cases e : k = i / 4
    · rw [if_pos e, if_pos e, if_pos hk]
      rfl
    · rw [if_neg e, if_neg e]
  rw [hg]
  by_cases e : k = i / 4
  · rw [if_pos e]
    have e1 : ¬ i < 4 * k := by omega
    have e2 : i - 4 * k = i % 4 := by omega
    have e3 : i % 4 < 4 := by omega
    rw [e2]
    simp [hi, e1, e3]
  · rw [if_neg e]
    by_cases c : i < 4 * k
    · simp [hi, c]
    · have e2 : ¬ i - 4 * k < 4 := by omega
      have : t.testBit (i - 4 * k) = false := testBit_lt (k := 4) (by omega) (by omega)
      simp [hi, c, e2, this]
theorem pk_nil : pk [] = 0 := rfl
/-- rows as long are alike only if they are one -/
theorem pkN_inj : ∀ (l l2 : List Nat), (∀ t ∈ l, t < 16) → (∀ t ∈ l2, t < 16) → l.length = l2.length → pkN l = pkN l2 → l = l2
  | [], [], _, _, _, _ => rfl
  | [], _ :: _, _, _, h, _ => by simp at h
  | _ :: _, [], _, _, h, _ => by simp at h
  | a :: l, b :: l2, h1, h2, hl, e => by
    have ha := h1 a List.mem_cons_self
    have hb := h2 b List.mem_cons_self
    have e' : a + 16 * pkN l = b + 16 * pkN l2 := e
    have e1 : a = b := by omega
    have e2 : pkN l = pkN l2 := by omega
    rw [e1, pkN_inj l l2 (fun t ht => h1 t (List.mem_cons_of_mem _ ht)) (fun t ht => h2 t (List.mem_cons_of_mem _ ht)) (by simpa using hl) e2]
theorem pkN_lt : ∀ (l : List Nat), (∀ t ∈ l, t < 16) → pkN l < 16 ^ l.length
  | [], _ => by simp [pkN]
  | a :: l, h => by
    have ha := h a List.mem_cons_self
    have ih := pkN_lt l (fun t ht => h t (List.mem_cons_of_mem _ ht))
    show a + 16 * pkN l < 16 ^ (l.length + 1)
    rw [Nat.pow_succ]
    omega
theorem pk_inj {l l2 : List Nat} (h1 : ∀ t ∈ l, t < 16) (h2 : ∀ t ∈ l2, t < 16) (hl : l.length = l2.length) (h8 : l.length ≤ 8) (e : pk l = pk l2) : l = l2 := by
  refine pkN_inj l l2 h1 h2 hl ?_
  have b1 : pkN l < 16 ^ 8 := Nat.lt_of_lt_of_le (pkN_lt l h1) (Nat.pow_le_pow_right (by decide) h8)
  have b2 : pkN l2 < 16 ^ 8 := Nat.lt_of_lt_of_le (pkN_lt l2 h2) (Nat.pow_le_pow_right (by decide) (hl ▸ h8))
  have e1 : (pk l).toBitVec.toNat = (pk l2).toBitVec.toNat := by rw [e]
  have e2 : (BitVec.ofNat 32 (pkN l)).toNat = (BitVec.ofNat 32 (pkN l2)).toNat := e1
  rw [BitVec.toNat_ofNat, BitVec.toNat_ofNat, Nat.mod_eq_of_lt (by omega), Nat.mod_eq_of_lt (by omega)] at e2
  exact e2
