/-! bytes fed -/
def BY (v : Int32) (j : Nat) : Int32 := vp_nar .byte ((iushr v (nI (24 - 8 * j))).toInt8.toInt32)
theorem nar_byte (x : Int32) : vp_nar .byte x = x.toInt8.toInt32 := rfl
theorem byte_c (y : Int32) : ∃ c : Nat, c < 256 ∧ y &&& 255 = nI c ∧ vp_nar .byte (y.toInt8.toInt32) = (nI c).toInt8.toInt32 := by
  refine ⟨(y.toBitVec &&& 255#32).toNat, ?_, ?_, ?_⟩
  · rw [BitVec.toNat_and]
    exact Nat.lt_of_le_of_lt Nat.and_le_right (by decide)
  · apply Int32.toBitVec.inj
    rw [nI_bv, BitVec.ofNat_toNat, BitVec.setWidth_eq]
    rfl
  · rw [nar_byte, Int8.toInt8_toInt32]
    congr 1
    apply Int8.toBitVec.inj
    rw [Int32.toBitVec_toInt8, Int32.toBitVec_toInt8, nI_bv, BitVec.ofNat_toNat, BitVec.setWidth_eq]
    apply BitVec.eq_of_getLsbD_eq
    intro i hi
    have m : ∀ i, i < 8 → (255#32).getLsbD i = true := by decide
    rw [BitVec.getLsbD_signExtend, BitVec.getLsbD_signExtend, BitVec.getLsbD_and, m i hi, Bool.and_true, if_pos (show i < 32 by omega), if_pos (show i < 32 by omega)]
theorem add_step {b : Nat → Int32} {s j : Nat} (hs : s < 600) (hj : j < 4) (v : Int32) (n : Nat) : fX5_add_3 (n + 1) b (nI s) v (nI (24 - 8 * j)) = fX5_add_3 n (upd b s (BY v j)) (nI (s + 1)) v (i32 (24 - 8 * ((j : Int) + 1))) := by
  have e : nI (24 - 8 * j) + (-8 : Int32) = i32 (24 - 8 * ((j : Int) + 1)) := by
    rw [nI_i32, show (-8 : Int32) = i32 (-8) from rfl, ← i32_add]
    congr 1
    omega
  rw [fX5_add_3, if_neg (show ¬ nI (24 - 8 * j) < 0 from fun q => by have := (nI_lt' (b := 0) (by omega) (by omega)).mp q; omega), if_neg (nI_nn0 (by omega)), show (600 : Int32) = nI 600 from rfl, if_le_n hs (by omega), chkN hs (by omega), nI_clamp' (by omega), fX5_add_47, e, nI_s]
  rfl
theorem add_one {b : Nat → Int32} {s : Nat} (hs : s + 4 ≤ 600) (v : Int32) : ∃ b2, fX5_add b (nI s) v = some (b2, nI (s + 4)) ∧ (∀ k, k < s → b2 k = b k) ∧ ∀ j, j < 4 → b2 (s + j) = BY v j := by
  obtain ⟨n, hn⟩ := FU_10
  refine ⟨upd (upd (upd (upd b s (BY v 0)) (s + 1) (BY v 1)) (s + 2) (BY v 2)) (s + 3) (BY v 3), ?_, fun k hk => ?_, fun j hj => ?_⟩
  · have a0 := add_step (b := b) (s := s) (j := 0) (by omega) (by omega) v (n + 9)
    have a1 := add_step (b := upd b s (BY v 0)) (s := s + 1) (j := 1) (by omega) (by omega) v (n + 8)
    have a2 := add_step (b := upd (upd b s (BY v 0)) (s + 1) (BY v 1)) (s := s + 2) (j := 2) (by omega) (by omega) v (n + 7)
    have a3 := add_step (b := upd (upd (upd b s (BY v 0)) (s + 1) (BY v 1)) (s + 2) (BY v 2)) (s := s + 3) (j := 3) (by omega) (by omega) v (n + 6)
    rw [fX5_add, show fX5_add_3 FU = fX5_add_3 (n + 9 + 1) by rw [hn], show (24 : Int32) = nI (24 - 8 * 0) from rfl, a0, show i32 (24 - 8 * (((0 : Nat) : Int) + 1)) = nI (24 - 8 * 1) from rfl, a1, show i32 (24 - 8 * (((1 : Nat) : Int) + 1)) = nI (24 - 8 * 2) from rfl, a2, show i32 (24 - 8 * (((2 : Nat) : Int) + 1)) = nI (24 - 8 * 3) from rfl, a3, fX5_add_3, if_pos (by decide)]
  · rw [upd_ne _ _ (by omega), upd_ne _ _ (by omega), upd_ne _ _ (by omega), upd_ne _ _ (by omega)]
  · have hj' : j = 0 ∨ j = 1 ∨ j = 2 ∨ j = 3 := by omega
    rcases hj' with rfl | rfl | rfl | rfl
    · rw [upd_ne _ _ (by omega), upd_ne _ _ (by omega), upd_ne _ _ (by omega), Nat.add_zero, upd_same]
    · rw [upd_ne _ _ (by omega), upd_ne _ _ (by omega), upd_same]
    · rw [upd_ne _ _ (by omega), upd_same]
    · rw [upd_same]
def fv (v1 v2 v3 v4 v5 : Int32) (q : Nat) : Int32 := if q = 0 then v1 else if q = 1 then v2 else if q = 2 then v3 else if q = 3 then v4 else v5
theorem feed_loop {f : Nat → Int32} {n : Nat} (hn : n + 20 ≤ 600) : ∀ (k fu i : Nat) (tp : Nat → Int32), i + k = 20 → k < fu → ∃ tp2, fX8_feed_42 fu tp (nI n) f (nI i) = some (nI (n + 20), tp2, nI (n + 20)) ∧ (∀ j, j < n + i → tp2 j = tp j) ∧ ∀ j, i ≤ j → j < 20 → tp2 (n + j) = iushr (f (j / 4)) (nI (24 - 8 * (j % 4))) &&& 255 := by
  intro k
  induction k with
  | zero =>
    intro fu i tp hi hfu
    obtain ⟨fu, rfl, -⟩ := succ_of hfu
    refine ⟨tp, ?_, fun _ _ => rfl, fun j h1 h2 => by omega⟩
    rw [fX8_feed_42, show (20 : Int32) = nI 20 from rfl, if_le_y (by omega) (by omega), nI_add]
  | succ k ih =>
    intro fu i tp hi hfu
    obtain ⟨fu, rfl, hfu'⟩ := succ_of hfu
    have e : (24 : Int32) - (8 * nI (i % 4)) = nI (24 - 8 * (i % 4)) := by rw [lit_nI8, nI_mul, show (24 : Int32) = nI 24 from rfl, nI_sub (by omega)]
    obtain ⟨tp2, q1, q2, q3⟩ := ih fu (i + 1) (upd tp (n + i) (iushr (f (i / 4)) (nI (24 - 8 * (i % 4))) &&& 255)) (by omega) (by omega)
    refine ⟨tp2, ?_, fun j hj => by rw [q2 j (by omega), upd_ne _ _ (by omega)], fun j h1 h2 => ?_⟩
    · rw [fX8_feed_42, show (20 : Int32) = nI 20 from rfl, if_le_n (by omega) (by omega), lit_nI4, idiv_nI (by omega) (by omega), irem_nI (by omega) (by omega) (by omega), nI_add, chkN (by omega) (by omega), chkN (by omega) (by omega), nI_clamp' (by omega), nI_clamp' (by omega), e, nI_s]
      exact q1
    · by_cases c : j = i
      · rw [c, q2 (n + i) (by omega), upd_same]
      · exact q3 j (by omega) h2
