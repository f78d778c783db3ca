/-! Whole numbers and the machine's: i32, i64 keep sums and products; within bounds they keep order. -/
theorem i32_add (a b : Int) : i32 (a + b) = i32 a + i32 b := Int32.ofInt_add a b
theorem i32_sub (a b : Int) : i32 (a - b) = i32 a - i32 b := Int32.ofInt_sub a b
theorem i32_mul (a b : Int) : i32 (a * b) = i32 a * i32 b := Int32.ofInt_mul a b
theorem i32_neg (a : Int) : i32 (-a) = -i32 a := Int32.ofInt_neg a
theorem i64_add (a b : Int) : i64 (a + b) = i64 a + i64 b := Int64.ofInt_add a b
theorem i64_sub (a b : Int) : i64 (a - b) = i64 a - i64 b := Int64.ofInt_sub a b
theorem i64_mul (a b : Int) : i64 (a * b) = i64 a * i64 b := Int64.ofInt_mul a b
theorem i64_neg (a : Int) : i64 (-a) = -i64 a := Int64.ofInt_neg a
theorem nI_i32 (n : Nat) : nI n = i32 (n : Int) := Int32.ofInt_eq_ofNat.symm
theorem lN_i64 (n : Nat) : lN n = i64 (n : Int) := Int64.ofInt_eq_ofNat.symm
def sm (z : Int) : Prop := -2147483648 ≤ z ∧ z < 2147483648
def smL (z : Int) : Prop := -9223372036854775808 ≤ z ∧ z < 9223372036854775808
theorem i32_int {z : Int} (h : sm z) : (i32 z).toInt = z := Int32.toInt_ofInt_of_le (by have := h.1; omega) (by have := h.2; omega)
theorem i64_int {z : Int} (h : smL z) : (i64 z).toInt = z := Int64.toInt_ofInt_of_le (by have := h.1; omega) (by have := h.2; omega)
theorem i32_of (x : Int32) : i32 x.toInt = x := Int32.ofInt_toInt x
theorem i64_of (x : Int64) : i64 x.toInt = x := Int64.ofInt_toInt x
theorem sm_of (x : Int32) : sm x.toInt := ⟨by have := x.le_toInt; omega, by have := x.toInt_lt; omega⟩
theorem i32_lt {a b : Int} (ha : sm a) (hb : sm b) : i32 a < i32 b ↔ a < b := by rw [Int32.lt_iff_toInt_lt, i32_int ha, i32_int hb]
theorem i32_le {a b : Int} (ha : sm a) (hb : sm b) : i32 a ≤ i32 b ↔ a ≤ b := by rw [Int32.le_iff_toInt_le, i32_int ha, i32_int hb]
theorem i32_eq {a b : Int} (ha : sm a) (hb : sm b) : i32 a = i32 b ↔ a = b := by rw [← Int32.toInt_inj, i32_int ha, i32_int hb]
theorem i64_lt {a b : Int} (ha : smL a) (hb : smL b) : i64 a < i64 b ↔ a < b := by rw [Int64.lt_iff_toInt_lt, i64_int ha, i64_int hb]
theorem i64_le {a b : Int} (ha : smL a) (hb : smL b) : i64 a ≤ i64 b ↔ a ≤ b := by rw [Int64.le_iff_toInt_le, i64_int ha, i64_int hb]
theorem i64_eq {a b : Int} (ha : smL a) (hb : smL b) : i64 a = i64 b ↔ a = b := by rw [← Int64.toInt_inj, i64_int ha, i64_int hb]
theorem i32_l {z : Int} (h : sm z) : (i32 z).toInt64 = i64 z := by
  rw [← Int64.toInt_inj, Int32.toInt_toInt64, i32_int h, i64_int ⟨by have := h.1; omega, by have := h.2; omega⟩]
theorem i64_i {z : Int} (h : sm z) : (i64 z).toInt32 = i32 z := by
  rw [← Int32.toInt_inj, Int64.toInt_toInt32, i64_int ⟨by have := h.1; omega, by have := h.2; omega⟩, i32_int h]
  exact Int.bmod_eq_of_le (by have := h.1; omega) (by have := h.2; omega)
theorem nI_clamp' {n : Nat} (h : n < 2147483648) : (nI n).toNatClampNeg = n := nI_clamp (by omega)
theorem nI_inj {a b : Nat} (ha : a < 2147483648) (hb : b < 2147483648) : nI a = nI b ↔ a = b := nI_eq (by omega) (by omega)
theorem nI_le' {a b : Nat} (ha : a < 2147483648) (hb : b < 2147483648) : nI a ≤ nI b ↔ a ≤ b := nI_leI (by omega) (by omega)
theorem nI_lt' {a b : Nat} (ha : a < 2147483648) (hb : b < 2147483648) : nI a < nI b ↔ a < b := nI_ltI (by omega) (by omega)
theorem nI_nn0 {k : Nat} (h : k < 2147483648) : ¬ nI k < 0 := fun q => by have := (nI_lt' (b := 0) h (by omega)).mp q; omega
theorem nI_mul (a b : Nat) : nI a * nI b = nI (a * b) := (Int32.ofNat_mul a b).symm
theorem nI_sub {a b : Nat} (h : b ≤ a) : nI a - nI b = nI (a - b) := (Int32.ofNat_sub a b h).symm
theorem in_nI {n N : Nat} (h : n < N) (hN : N < 2147483648) : vp_in (nI n) N := vp_in_nI h (by omega)
/-- a not negative number of the machine's is some nI -/
theorem nI_get {x : Int32} (h : 0 ≤ x) : ∃ n : Nat, n < 2147483648 ∧ x = nI n := by
  obtain ⟨j, h1, h2⟩ := nI_of (x := x) (Int32.not_lt.mpr h)
  exact ⟨j, by omega, h2⟩
/-- an argument within bounds is one of few numbers -/
theorem arg_in {x : Int32} {n : Nat} (hn : n < 2147483648) (h0 : ¬ x < 0) (h1 : ¬ nI n < x) : ∃ k : Nat, k ≤ n ∧ x = nI k := by
  obtain ⟨k, hk, rfl⟩ := nI_get (Int32.not_lt.mp h0)
  refine ⟨k, ?_, rfl⟩
  rw [nI_lt' hn hk] at h1
  omega
theorem arg_lt {x : Int32} {n : Nat} (hn : n < 2147483648) (h0 : ¬ x < 0) (h1 : ¬ nI n ≤ x) : ∃ k : Nat, k < n ∧ x = nI k := by
  obtain ⟨k, hk, rfl⟩ := nI_get (Int32.not_lt.mp h0)
  refine ⟨k, ?_, rfl⟩
  rw [nI_le' hn hk] at h1
  omega
theorem chkN {β : Type} {n k : Nat} {t : Option β} (h : k < n) (hn : n < 2147483648) : chk n (nI k) t = t := chk_in (in_nI h hn)
theorem FU_gt {k : Nat} (h : k < 100000) : k < FU := h
theorem upd_same (f : Nat → Int32) (k : Nat) (x : Int32) : upd f k x k = x := pk_us
theorem upd_ne (f : Nat → Int32) {k j : Nat} (x : Int32) (h : j ≠ k) : upd f k x j = f j := pk_un h
theorem updL_same (f : Nat → Int64) (k : Nat) (x : Int64) : vp_updL f k x k = x := pk_uLs
theorem updL_ne (f : Nat → Int64) {k j : Nat} (x : Int64) (h : j ≠ k) : vp_updL f k x j = f j := pk_uLn h
theorem lit_nI0 : (0 : Int32) = nI 0 := rfl
theorem lit_nI1 : (1 : Int32) = nI 1 := rfl
theorem lit_nI2 : (2 : Int32) = nI 2 := rfl
theorem lit_nI3 : (3 : Int32) = nI 3 := rfl
theorem lit_nI4 : (4 : Int32) = nI 4 := rfl
theorem lit_nI5 : (5 : Int32) = nI 5 := rfl
theorem lit_nI7 : (7 : Int32) = nI 7 := rfl
theorem lit_nI8 : (8 : Int32) = nI 8 := rfl
theorem lit_nI9 : (9 : Int32) = nI 9 := rfl
theorem lit_nI19 : (19 : Int32) = nI 19 := rfl
theorem lit_nI27 : (27 : Int32) = nI 27 := rfl
theorem lit_nI30 : (30 : Int32) = nI 30 := rfl
theorem succ_of {n : Nat} {k : Nat} (h : k < n) : ∃ m, n = m + 1 ∧ k ≤ m := ⟨n - 1, by omega, by omega⟩
theorem irem_nI {a b : Nat} (ha : a < 2147483648) (hb : b < 2147483648) (h0 : 0 < b) : irem (nI a) (nI b) = nI (a % b) := by
  unfold irem
  have hd : nI a / nI b = nI (a / b) := (Int32.ofNat_div (by omega) (by omega)).symm
  have hle : a / b * b ≤ a := Nat.div_mul_le_self a b
  rw [hd, nI_mul, nI_sub hle]
  congr 1
  have := Nat.div_add_mod a b
  rw [Nat.mul_comm] at this
  omega
theorem idiv_nI {a b : Nat} (ha : a < 2147483648) (hb : b < 2147483648) : nI a / nI b = nI (a / b) := (Int32.ofNat_div (by omega) (by omega)).symm
