/-! how many unlike: two tables that keep keys once -/
def zc (T : Nat → Int64) : Nat → Nat
  | 0 => 0
  | n + 1 => zc T n + if T n = 0 then 1 else 0
theorem zc_pos {T : Nat → Int64} : ∀ n, 0 < zc T n → ∃ i, i < n ∧ T i = 0
  | 0, h => by simp [zc] at h
  | n + 1, h => by
    rw [zc] at h
    by_cases c : T n = 0
    · exact ⟨n, by omega, c⟩
    · rw [if_neg c] at h
      obtain ⟨i, h1, h2⟩ := zc_pos n (by omega)
      exact ⟨i, by omega, h2⟩
theorem zc_upd {T : Nat → Int64} {i : Nat} {x : Int64} (h0 : T i = 0) (hx : ¬ x = 0) : ∀ n, i < n → zc (vp_updL T i x) n + 1 = zc T n
  | 0, h => by omega
  | n + 1, h => by
    rw [zc, zc]
    by_cases e : i = n
    · subst e
      have z : ∀ n, n ≤ i → zc (vp_updL T i x) n = zc T n := by
        intro n
        induction n with
        | zero => intro _; rfl
        | succ n ih => intro h; rw [zc, zc, ih (by omega), updL_ne _ _ (by omega)]
      rw [z i (Nat.le_refl _), updL_same, if_neg hx, if_pos h0]
    · have := zc_upd h0 hx n (by omega)
      rw [updL_ne _ _ (fun q => e q.symm)]
      omega
theorem zc_all {T : Nat → Int64} : ∀ n, (∀ i, i < n → T i = 0) → zc T n = n
  | 0, _ => rfl
  | n + 1, h => by rw [zc, zc_all n (fun i hi => h i (by omega)), if_pos (h n (by omega))]
/-- a table of M places holds the keys S, each found from its own start -/
def okT (M : Nat) (T : Nat → Int64) (H : Int64 → Nat) (S : List Int64) : Prop := zc T M + S.length = M ∧ (∀ x ∈ S, ¬ x = 0) ∧ (∀ i, i < M → T i = 0 ∨ T i ∈ S) ∧ ∀ x ∈ S, ∃ j, j < M ∧ T ((H x + j) % M) = x ∧ ∀ i, i < j → ¬ T ((H x + i) % M) = 0
theorem okT_0 {M : Nat} {T : Nat → Int64} {H : Int64 → Nat} (h : ∀ i, i < M → T i = 0) : okT M T H [] := ⟨by rw [zc_all M h]; rfl, fun x hx => by simp at hx, fun i hi => Or.inl (h i hi), fun x hx => by simp at hx⟩
/-- where a search ends -/
def stops (M : Nat) (T : Nat → Int64) (h : Nat) (x : Int64) (j : Nat) : Prop := j < M ∧ (T ((h + j) % M) = x ∨ T ((h + j) % M) = 0) ∧ ∀ i, i < j → ¬ T ((h + i) % M) = x ∧ ¬ T ((h + i) % M) = 0
theorem least {p : Nat → Prop} : ∀ n, p n → ∃ j, j ≤ n ∧ p j ∧ ∀ i, i < j → ¬ p i := by
  intro n
  induction n using Nat.strongRecOn with
  | ind n ih =>
    intro h
    by_cases c : ∃ i, i < n ∧ p i
    · obtain ⟨i, h1, h2⟩ := c
      obtain ⟨j, a1, a2, a3⟩ := ih i h1 h2
      exact ⟨j, by omega, a2, a3⟩
    · exact ⟨n, Nat.le_refl _, h, fun i hi hp => c ⟨i, hi, hp⟩⟩
theorem okT.stop {M : Nat} {T : Nat → Int64} {H : Int64 → Nat} {S : List Int64} (h : okT M T H S) (hS : S.length < M) (hh : Nat) (x : Int64) : ∃ j, stops M T hh x j := by
  obtain ⟨i, h1, h2⟩ := zc_pos M (show 0 < zc T M by have := h.1; omega)
  have e : (hh + (i + M - hh % M) % M) % M = i := by
    have m1 : hh % M < M := Nat.mod_lt _ (by omega)
    rw [Nat.add_mod_mod, ← Nat.mod_add_mod, show hh % M + (i + M - hh % M) = i + M by omega, Nat.add_mod_right, Nat.mod_eq_of_lt h1]
  obtain ⟨j, a1, a2, a3⟩ := least (p := fun j => T ((hh + j) % M) = x ∨ T ((hh + j) % M) = 0) ((i + M - hh % M) % M) (Or.inr (by rw [e]; exact h2))
  have : (i + M - hh % M) % M < M := Nat.mod_lt _ (by omega)
  exact ⟨j, by omega, a2, fun k hk => ⟨fun q => a3 k hk (Or.inl q), fun q => a3 k hk (Or.inr q)⟩⟩
theorem okT.has {M : Nat} {T : Nat → Int64} {H : Int64 → Nat} {S : List Int64} (h : okT M T H S) {x : Int64} (h0 : ¬ x = 0) {j : Nat} (hj : stops M T (H x) x j) : T ((H x + j) % M) = x ↔ x ∈ S := by
  obtain ⟨s1, s2, s3⟩ := hj
  constructor
  · intro q
    rcases h.2.2.1 _ (Nat.mod_lt (H x + j) (show 0 < M by omega)) with z | z
    · rw [q] at z; exact absurd z h0
    · rw [q] at z; exact z
  · intro q
    obtain ⟨k, b1, b2, b3⟩ := h.2.2.2 x q
    rcases s2 with z | z
    · exact z
    · exfalso
      by_cases c : j < k
      · exact b3 j c z
      · by_cases d : j = k
        · rw [d, b2] at z; exact h0 z
        · exact (s3 k (by omega)).1 b2
theorem okT.put {M : Nat} {T : Nat → Int64} {H : Int64 → Nat} {S : List Int64} (h : okT M T H S) {x : Int64} (h0 : ¬ x = 0) {j : Nat} (hj : stops M T (H x) x j) (hz : T ((H x + j) % M) = 0) : okT M (vp_updL T ((H x + j) % M) x) H (x :: S) := by
  obtain ⟨s1, s2, s3⟩ := hj
  have lt := Nat.mod_lt (H x + j) (show 0 < M by omega)
  have up : ∀ i, ¬ T i = 0 → vp_updL T ((H x + j) % M) x i = T i := fun i hi => updL_ne _ _ (fun q => hi (by rw [q]; exact hz))
  have nz : ∀ i, ¬ T i = 0 → ¬ vp_updL T ((H x + j) % M) x i = 0 := fun i hi => by rw [up i hi]; exact hi
  refine ⟨?_, fun y hy => ?_, fun i hi => ?_, fun y hy => ?_⟩
  · have := zc_upd hz h0 M lt
    have := h.1
    rw [List.length_cons]; omega
  · rcases List.mem_cons.mp hy with q | q
    · rw [q]; exact h0
    · exact h.2.1 y q
  · by_cases e : i = (H x + j) % M
    · right; rw [e, updL_same]; exact List.mem_cons_self
    · rw [updL_ne _ _ e]
      rcases h.2.2.1 i hi with z | z
      · exact Or.inl z
      · exact Or.inr (List.mem_cons_of_mem _ z)
  · rcases List.mem_cons.mp hy with q | q
    · rw [q]
      exact ⟨j, s1, updL_same _ _ _, fun i hi => nz _ (s3 i hi).2⟩
    · obtain ⟨k, b1, b2, b3⟩ := h.2.2.2 y q
      have y0 := h.2.1 y q
      exact ⟨k, b1, by rw [up _ (by rw [b2]; exact y0)]; exact b2, fun i hi => nz _ (b3 i hi)⟩
/-- unlike keys among the first n -/
def DK (K : List Nat → Nat) (L : List (List Nat)) : Nat → List Nat
  | 0 => []
  | n + 1 => if K (L.getD n []) ∈ DK K L n then DK K L n else K (L.getD n []) :: DK K L n
theorem DK_len (K : List Nat → Nat) (L : List (List Nat)) : ∀ n, (DK K L n).length ≤ n
  | 0 => Nat.le_refl _
  | n + 1 => by
    have := DK_len K L n
    rw [DK]
    split
    · omega
    · rw [List.length_cons]; omega
theorem DK_mem (K : List Nat → Nat) (L : List (List Nat)) : ∀ n x, n ≤ L.length → x ∈ DK K L n → ∃ i, i < L.length ∧ x = K (L.getD i [])
  | 0, x, _, h => by simp [DK] at h
  | n + 1, x, hn, h => by
    rw [DK] at h
    split at h
    · exact DK_mem K L n x (by omega) h
    · rcases List.mem_cons.mp h with q | q
      · exact ⟨n, by omega, q⟩
      · exact DK_mem K L n x (by omega) q
def kD (nb : Nat → Int) (x : List Nat) (w : Nat) : Nat := (tot (ceQ nb) x.length 2 (4 * w) 0 x + 1048576).toNat
def kN (nb : Nat → Int) (x : List Nat) : Nat := 2097152 * (2097152 * kD nb x 0 + kD nb x 1) + kD nb x 2
def cK (k : Nat) : Int64 := lN k
def mK (k : Nat) : Int64 := i64 (9223372036854775808 + (k : Int))
theorem cK_inj {x y : Nat} (hx : x < 9223372036854775808) (hy : y < 9223372036854775808) (h : cK x = cK y) : x = y := by
  unfold cK at h
  rw [lN_i64, lN_i64, i64_eq ⟨by omega, by omega⟩ ⟨by omega, by omega⟩] at h
  omega
theorem mK_inj {x y : Nat} (hx : x < 9223372036854775808) (hy : y < 9223372036854775808) (h : mK x = mK y) : x = y := by
  unfold mK at h
  have := congrArg (fun z => z - i64 9223372036854775808) h
  simp only [← i64_sub] at this
  rw [i64_eq ⟨by omega, by omega⟩ ⟨by omega, by omega⟩] at this
  omega
theorem cK_0 {x : Nat} (hx : x < 9223372036854775808) (h0 : 0 < x) : ¬ cK x = 0 := fun h => by
  have := (lN_0 hx).mp h
  omega
theorem mK_0 {x : Nat} (hx : x < 9223372036854775808) : ¬ mK x = 0 := fun h => by
  unfold mK at h
  have := congrArg (fun z => z - i64 9223372036854775808) h
  simp only [show (0 : Int64) = i64 0 from rfl, ← i64_sub] at this
  rw [i64_eq ⟨by omega, by omega⟩ ⟨by omega, by omega⟩] at this
  omega
theorem map_mem {f : Nat → Int64} {B : Nat} (hf : ∀ x y, x < B → y < B → f x = f y → x = y) {S : List Nat} (hS : ∀ x ∈ S, x < B) {k : Nat} (hk : k < B) : f k ∈ S.map f ↔ k ∈ S := by
  rw [List.mem_map]
  constructor
  · rintro ⟨x, h1, h2⟩
    rw [← hf x k (hS x h1) hk h2]; exact h1
  · intro h; exact ⟨k, h, rfl⟩
section
variable {numbers cells rows sizes rooms mem : Nat → Int32} {kn a : Nat} {l : List Nat} {rm : Nat} {nb : Nat → Int}
theorem VW.kD_bd (h : VW numbers cells rows sizes rooms mem kn a l rm nb) {x : List Nat} (hR : R16 x) (h3 : ∀ t ∈ x, t < 4 * kn) {w : Nat} (hw : w < 3) : 0 < kD nb x w ∧ kD nb x w < 2097152 ∧ (kD nb x w : Int) = tot (ceQ nb) x.length 2 (4 * w) 0 x + 1048576 := by
  have := h.bd0 hR h3 2 (c := 4 * w) (by omega)
  unfold kD
  omega
theorem VW.kN_bd (h : VW numbers cells rows sizes rooms mem kn a l rm nb) {x : List Nat} (hR : R16 x) (h3 : ∀ t ∈ x, t < 4 * kn) : 0 < kN nb x ∧ kN nb x < 9223372036854775808 := by
  have a0 := h.kD_bd hR h3 (w := 0) (by omega)
  have a1 := h.kD_bd hR h3 (w := 1) (by omega)
  have a2 := h.kD_bd hR h3 (w := 2) (by omega)
  unfold kN
  omega
theorem sh21 {a d : Nat} (hd : d < 2097152) : lshl (lN a) 21 ||| lN d = lN (2097152 * a + d) := by
  have h1 : ((21 : Int32).toInt64 &&& 63).toBitVec.smod 64 = 21#64 := by decide
  have e : (lshl (lN a) 21).toBitVec = (lN a).toBitVec <<< 21 := by
    unfold lshl
    rw [Int64.toBitVec_shiftLeft, h1]
    rfl
  apply lbv_ext
  intro i hi
  rw [Int64.toBitVec_or, BitVec.getLsbD_or, e, BitVec.getLsbD_shiftLeft, lN_bit _ _ hi, lN_bit _ _ hi, show (2097152 : Nat) = 2 ^ 21 from rfl, Nat.testBit_two_pow_mul_add _ hd]
  by_cases c : i < 21
  · simp [c, hi]
  · rw [if_neg c, lN_bit _ _ (by omega), testBit_lt (k := 21) hd (by omega)]
    simp [c, hi]
theorem VW.keyC (h : VW numbers cells rows sizes rooms mem kn a l rm nb) {x : List Nat} (hR : R16 x) (h3 : ∀ t ∈ x, t < 4 * kn) : fX0_bendKey (nI x.length) cells (pk x) = some (cK (kN nb x)) := by
  obtain ⟨f, hf⟩ := FU_10
  have st : ∀ (n w : Nat) (acc : Nat), w < 3 → fX0_bendKey_5 (n + 1) (nI x.length) cells (pk x) (lN acc) (nI w) = fX0_bendKey_5 n (nI x.length) cells (pk x) (lN (2097152 * acc + kD nb x w)) (nI (w + 1)) := by
    intro n w acc hw
    have s := h.totOf hR h3 (w := 2) (c := 4 * w) (g := 0) (by omega) (by omega) (by omega)
    rw [← lit_nI0, ← lit_nI2, totG_0] at s
    obtain ⟨b1, b2, b3⟩ := h.kD_bd hR h3 hw
    have e : i64 (tot (ceQ nb) x.length 2 (4 * w) 0 x) + 1048576 = lN (kD nb x w) := by
      rw [show (1048576 : Int64) = i64 1048576 from rfl, ← i64_add, lN_i64, b3]
    rw [fX0_bendKey_5, lit_nI3, if_le_n (by omega) (by omega), lit_nI4, nI_mul, s, Option.bind_some, e, sh21 b2, nI_s]
  rw [fX0_bendKey, show fX0_bendKey_5 FU = fX0_bendKey_5 (f + 6 + 1 + 1 + 1 + 1) by rw [hf], show (0 : Int64) = lN 0 from rfl, lit_nI0, st _ 0 0 (by omega), st _ 1 _ (by omega), st _ 2 _ (by omega), fX0_bendKey_5, lit_nI3, if_le_y (by omega) (by omega)]
  unfold cK kN
  congr 2
  omega
theorem VW.keyM (h : VW numbers cells rows sizes rooms mem kn a l rm nb) {x : List Nat} {row : Nat → Int32} (hR : R16 x) (h3 : ∀ t ∈ x, t < 4 * kn) (hr : RW row x) (se : Nat → Int64) (un : Int32) : fX8_notes mem row (nI x.length) 0 se un = fX8_notes_33 se un (mK (kN nb x)) := by
  obtain ⟨f, hf⟩ := FU_10
  have st : ∀ (n w : Nat) (acc : Int), w < 3 → fX8_notes_4 (n + 1) mem row (nI x.length) 0 se un (i64 acc) (nI w) = fX8_notes_4 n mem row (nI x.length) 0 se un (i64 (2097152 * acc + kD nb x w)) (nI (w + 1)) := by
    intro n w acc hw
    have s := h.sum hR h3 hr (w := 2) (i := w) (j := w) (g := 0) (by omega) (by omega) (by omega) (by omega)
    rw [← lit_nI0, ← lit_nI2, totG_0, show 3 * w + w = 4 * w by omega] at s
    obtain ⟨b1, b2, b3⟩ := h.kD_bd hR h3 hw
    rw [fX8_notes_4, lit_nI3, if_le_n (by omega) (by omega), s, Option.bind_some, show (2097152 : Int64) = i64 2097152 from rfl, show (1048576 : Int64) = i64 1048576 from rfl, ← i64_mul, ← i64_add, ← i64_add, nI_s, b3]
    congr 2
    omega
  rw [fX8_notes, show fX8_notes_4 FU = fX8_notes_4 (f + 6 + 1 + 1 + 1 + 1) by rw [hf], show (1 : Int64) = i64 1 from rfl, show fX8_notes_4 (f + 6 + 1 + 1 + 1 + 1) mem row (nI x.length) 0 se un (i64 1) 0 = fX8_notes_4 (f + 6 + 1 + 1 + 1 + 1) mem row (nI x.length) 0 se un (i64 1) (nI 0) from rfl, st _ 0 1 (by omega), st _ 1 _ (by omega), st _ 2 _ (by omega), fX8_notes_4, lit_nI3, if_le_y (by omega) (by omega)]
  unfold mK kN
  congr 2
  omega
end
def bvN (y : Int32) : Nat := y.toBitVec.toNat
theorem bvN_nI (y : Int32) : y = nI (bvN y) := by
  apply Int32.toBitVec.inj
  rw [nI_bv, bvN, BitVec.ofNat_toNat, BitVec.setWidth_eq]
def cH (x : Int64) : Nat := bvN ((lushr (x * (-7046029254386353131)) 33).toInt32)
theorem and_mod (x q : Nat) : nI x &&& nI (2 ^ q - 1) = nI (x % 2 ^ q) := by
  rw [and_nI, Nat.and_two_pow_sub_one_eq_mod]
/-- the class's search -/
theorem cNew {q M : Nat} (hM : M = 2 ^ q) (hM2 : M ≤ 65536) {T : Nat → Int64} {x : Int64} (h0 : ¬ x = 0) {j : Nat} (hj : stops M T (cH x) x j) : fX0_isNew M T x = some (if T ((cH x + j) % M) = x then (0, T) else (1, vp_updL T ((cH x + j) % M) x)) := by
  obtain ⟨s1, s2, s3⟩ := hj
  have lp : ∀ (k n i : Nat), i + k = j → k < n → fX0_isNew_13 n M T x (nI (cH x)) (nI i) = some (if T ((cH x + j) % M) = x then (0, T) else (1, vp_updL T ((cH x + j) % M) x)) := by
    intro k
    induction k with
    | zero =>
      intro n i hi hn
      obtain ⟨n, rfl, -⟩ := succ_of hn
      have e : i = j := by omega
      subst e
      have lt := Nat.mod_lt (cH x + i) (show 0 < M by omega)
      rw [fX0_isNew_13, if_le_n (by omega) (by omega), nI_add, show nI M - 1 = nI (2 ^ q - 1) by rw [← hM]; exact nI_sub (b := 1) (by omega), and_mod, ← hM, chkN lt (by omega), chkN lt (by omega), nI_clamp' (by omega)]
      by_cases c : T ((cH x + i) % M) = x
      · rw [if_pos ((lg_cmp_eq _ _).mpr c), if_pos c]
      · have z : T ((cH x + i) % M) = 0 := s2.resolve_left c
        rw [if_neg (fun r => c ((lg_cmp_eq _ _).mp r)), if_neg c, if_pos ((lg_cmp_eq _ _).mpr z), fX0_isNew_63, chkN lt (by omega), nI_clamp' (by omega)]
    | succ k ih =>
      intro n i hi hn
      obtain ⟨n, rfl, hn'⟩ := succ_of hn
      obtain ⟨t1, t2⟩ := s3 i (by omega)
      have lt := Nat.mod_lt (cH x + i) (show 0 < M by omega)
      rw [fX0_isNew_13, if_le_n (by omega) (by omega), nI_add, show nI M - 1 = nI (2 ^ q - 1) by rw [← hM]; exact nI_sub (b := 1) (by omega), and_mod, ← hM, chkN lt (by omega), chkN lt (by omega), nI_clamp' (by omega), if_neg (fun r => t1 ((lg_cmp_eq _ _).mp r)), if_neg (fun r => t2 ((lg_cmp_eq _ _).mp r)), nI_s]
      exact ih n (i + 1) (by omega) (by omega)
  have := lp j FU 0 (by omega) (FU_gt (by omega))
  rw [fX0_isNew, bvN_nI ((lushr (x * (-7046029254386353131)) 33).toInt32)]
  exact this
def mH (x : Int64) : Nat := bvN (((x ^^^ lushr x 31) &&& 65535).toInt32)
theorem mH_lt (x : Int64) : mH x < 65536 := by
  unfold mH bvN
  apply Nat.lt_pow_two_of_testBit (n := 16)
  intro i hi
  by_cases c : i < 32
  · have m : ∀ i, i < 64 → (65535 : Int64).toBitVec.getLsbD i = decide (i < 16) := by decide +kernel
    show (((x ^^^ lushr x 31) &&& 65535).toInt32).toBitVec.getLsbD i = false
    rw [Int64.toBitVec_toInt32, BitVec.getLsbD_signExtend, if_pos (show i < 64 by omega), Int64.toBitVec_and, BitVec.getLsbD_and, m i (by omega), decide_eq_false (show ¬ i < 16 by omega), Bool.and_false, Bool.and_false]
  · exact Nat.testBit_lt_two_pow (Nat.lt_of_lt_of_le (((x ^^^ lushr x 31) &&& 65535).toInt32.toBitVec.isLt) (Nat.pow_le_pow_right (by decide) (by omega)))
/-- the model's search -/
theorem mNew {T : Nat → Int64} {x : Int64} (h0 : ¬ x = 0) {un : Nat} {j : Nat} (hj : stops 65536 T (mH x) x j) : fX8_notes_33 T (nI un) x = some (vp_updL T ((mH x + j) % 65536) x, if T ((mH x + j) % 65536) = x then nI un else nI (un + 1)) := by
  obtain ⟨s1, s2, s3⟩ := hj
  have ml := mH_lt x
  have fin : ∀ i, i < 65536 → fX8_notes_78 T (nI un) x (nI i) = some (vp_updL T i x, if T i = 0 then nI (un + 1) else nI un) := by
    intro i hi
    rw [fX8_notes_78, chkN hi (by omega), nI_clamp' (by omega)]
    by_cases c : T i = 0
    · rw [if_pos ((lg_cmp_eq _ _).mpr c), if_pos c, fX8_notes_99, chkN hi (by omega), nI_clamp' (by omega), nI_s]
    · rw [if_neg (fun r => c ((lg_cmp_eq _ _).mp r)), if_neg c, fX8_notes_99, chkN hi (by omega), nI_clamp' (by omega), show (0 : Int32) = nI 0 from rfl, nI_add]
      rfl
  have lp : ∀ (k n i : Nat), i + k = j → k < n → fX8_notes_45 n T (nI un) x (nI ((mH x + i) % 65536)) = some (vp_updL T ((mH x + j) % 65536) x, if T ((mH x + j) % 65536) = x then nI un else nI (un + 1)) := by
    intro k
    induction k with
    | zero =>
      intro n i hi hn
      obtain ⟨n, rfl, -⟩ := succ_of hn
      have e : i = j := by omega
      subst e
      have lt := Nat.mod_lt (mH x + i) (show 0 < 65536 by omega)
      rw [fX8_notes_45, chkN lt (by omega), nI_clamp' (by omega), chkN lt (by omega), fin _ lt]
      by_cases c : T ((mH x + i) % 65536) = x
      · have nz : ¬ T ((mH x + i) % 65536) = 0 := by rw [c]; exact h0
        rw [if_neg (fun r => nz ((lg_cmp_eq _ _).mp r)), if_pos ((lg_cmp_eq _ _).mpr c), if_pos c, if_neg nz]
      · have z : T ((mH x + i) % 65536) = 0 := s2.resolve_left c
        rw [if_pos ((lg_cmp_eq _ _).mpr z), if_neg c, if_pos z]
    | succ k ih =>
      intro n i hi hn
      obtain ⟨n, rfl, hn'⟩ := succ_of hn
      obtain ⟨t1, t2⟩ := s3 i (by omega)
      have lt := Nat.mod_lt (mH x + i) (show 0 < 65536 by omega)
      have e : (nI ((mH x + i) % 65536) + 1) &&& 65535 = nI ((mH x + (i + 1)) % 65536) := by
        rw [nI_s, show (65535 : Int32) = nI (2 ^ 16 - 1) from rfl, and_mod, show (2 : Nat) ^ 16 = 65536 from rfl]
        congr 1
        omega
      rw [fX8_notes_45, chkN lt (by omega), nI_clamp' (by omega), chkN lt (by omega), if_neg (fun r => t2 ((lg_cmp_eq _ _).mp r)), if_neg (fun r => t1 ((lg_cmp_eq _ _).mp r)), e]
      exact ih n (i + 1) (by omega) (by omega)
  have := lp j FU 0 (by omega) (FU_gt (by omega))
  rw [Nat.add_zero, Nat.mod_eq_of_lt ml] at this
  rw [fX8_notes_33, bvN_nI (((x ^^^ lushr x 31) &&& 65535).toInt32)]
  exact this
