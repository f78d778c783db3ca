/-! strains: three by three, whole numbers -/
def C3 (T : Nat → Int) (i j : Nat) : Int :=
  if i = 0 then (if j = 0 then T 4 * T 8 - T 2 * T 2 else if j = 1 then T 2 * T 2 - T 1 * T 8 else T 1 * T 2 - T 4 * T 2)
  else if i = 1 then (if j = 0 then T 2 * T 2 - T 1 * T 8 else if j = 1 then T 0 * T 8 - T 2 * T 2 else T 1 * T 2 - T 0 * T 2)
  else (if j = 0 then T 1 * T 2 - T 4 * T 2 else if j = 1 then T 1 * T 2 - T 0 * T 2 else T 0 * T 4 - T 1 * T 1)
def D3 (T : Nat → Int) : Int := T 0 * C3 T 0 0 + T 1 * C3 T 0 1 + T 2 * C3 T 0 2
def S3 (T : Nat → Int) (n0 n1 n2 : Int) (i : Nat) : Int := C3 T i 0 * n0 + C3 T i 1 * n1 + C3 T i 2 * n2
def Sy (T : Nat → Int) : Prop := T 3 = T 1 ∧ T 5 = T 2 ∧ T 6 = T 2 ∧ T 7 = T 2
def sT (nb : Nat → Int) (l : List Nat) (g w : Nat) : Nat → Int := fun c => totG (ceQ nb) l.length w c g 0 l
theorem totG_congr {ce : Nat → Int} (n w g : Nat) {c d : Nat} (h : ∀ t, ce (9 * t + c) = ce (9 * t + d)) : ∀ (l : List Nat) (k : Nat), totG ce n w c g k l = totG ce n w d g k l
  | [], k => rfl
  | t :: l, k => by rw [totG, totG, totG_congr n w g h l (k + 1), h t]
theorem sT_sy (nb : Nat → Int) (l : List Nat) (g w : Nat) : Sy (sT nb l g w) :=
  ⟨totG_congr _ _ _ (ceQ_13 nb) l 0, totG_congr _ _ _ (ceQ_25 nb) l 0, totG_congr _ _ _ (ceQ_26 nb) l 0, totG_congr _ _ _ (ceQ_27 nb) l 0⟩
theorem C3_sym (T : Nat → Int) {i j : Nat} (hi : i < 3) (hj : j < 3) : C3 T i j = C3 T j i := by
  have hi' : i = 0 ∨ i = 1 ∨ i = 2 := by omega
  have hj' : j = 0 ∨ j = 1 ∨ j = 2 := by omega
  rcases hi' with rfl | rfl | rfl <;> rcases hj' with rfl | rfl | rfl <;> rfl
theorem cCell {T : Nat → Int} {cl : Nat → Int64} (hc : ∀ c, c < 9 → cl c = i64 (T c)) {x y : Int32} {i j : Nat} (hi : i < 3) (hj : j < 3) (hx : x = nI i) (hy : y = nI j) : fX4_cellAt cl x y = some (i64 (T (3 * i + j))) := by
  subst hx
  subst hy
  rw [fX4_cellAt, lit_nI0, if_lt_n (by omega) (by omega), lit_nI2, if_lt_n (by omega) (by omega), if_lt_n (by omega) (by omega), if_le_y (by omega) (by omega), lit_nI3, nI_mul, nI_add, chkN (by omega) (by omega), nI_clamp' (by omega), hc _ (by omega)]
theorem cCof {T : Nat → Int} (hS : Sy T) {cl : Nat → Int64} (hc : ∀ c, c < 9 → cl c = i64 (T c)) {i j : Nat} (hi : i < 3) (hj : j < 3) : fX4_cofactor cl (nI i) (nI j) = some (i64 (C3 T i j)) := by
  obtain ⟨s1, s2, s3, s4⟩ := hS
  have e : ∀ k, k < 3 → irem (nI k + 1) 3 = nI ((k + 1) % 3) ∧ irem (nI k + 2) 3 = nI ((k + 2) % 3) := by decide +kernel
  rw [fX4_cofactor, cCell hc (Nat.mod_lt _ (by omega)) (Nat.mod_lt _ (by omega)) (e i hi).1 (e j hj).1, Option.bind_some, cCell hc (Nat.mod_lt _ (by omega)) (Nat.mod_lt _ (by omega)) (e i hi).2 (e j hj).2, Option.bind_some, cCell hc (Nat.mod_lt _ (by omega)) (Nat.mod_lt _ (by omega)) (e i hi).1 (e j hj).2, Option.bind_some, cCell hc (Nat.mod_lt _ (by omega)) (Nat.mod_lt _ (by omega)) (e i hi).2 (e j hj).1, Option.bind_some, ← i64_mul, ← i64_mul, ← i64_sub]
  congr 2
  have hi' : i = 0 ∨ i = 1 ∨ i = 2 := by omega
  have hj' : j = 0 ∨ j = 1 ∨ j = 2 := by omega
  rcases hi' with rfl | rfl | rfl <;> rcases hj' with rfl | rfl | rfl <;> simp only [C3, Nat.reduceMod, Nat.reduceAdd, Nat.reduceMul, if_true, s1, s2, s3, s4, Nat.zero_mod, Nat.one_mod, show ¬ (1 : Nat) = 0 by omega, show ¬ (2 : Nat) = 0 by omega, show ¬ (2 : Nat) = 1 by omega, if_false] <;> grind
section
variable {numbers cells rows sizes rooms mem : Nat → Int32} {kn a : Nat} {l : List Nat} {rm : Nat} {nb : Nat → Int}
theorem VW.take_loop (h : VW numbers cells rows sizes rooms mem kn a l rm nb) {w g : Nat} (hw : w ≤ 2) (hg : g < 256) (det0 : Int64) : ∀ (k n i : Nat) (cl : Nat → Int64), i + k = 9 → k < n → (∀ c, c < i → cl c = i64 (sT nb l g w c)) → ∃ cl2, fX4_take_3 n cl det0 cells rows sizes (nI a) (nI w) (nI g) (nI i) = fX4_take_31 cl2 det0 ∧ ∀ c, c < 9 → cl2 c = i64 (sT nb l g w c) := by
  intro k
  induction k with
  | zero =>
    intro n i cl hi hn hc
    obtain ⟨n, rfl, -⟩ := succ_of hn
    exact ⟨cl, by rw [fX4_take_3, lit_nI9, if_le_y (by omega) (by omega)], fun c h9 => hc c (by omega)⟩
  | succ k ih =>
    intro n i cl hi hn hc
    obtain ⟨n, rfl, hn'⟩ := succ_of hn
    rw [fX4_take_3, lit_nI9, if_le_n (by omega) (by omega), h.total hw (by omega) hg, Option.bind_some, chkN (by omega) (by omega), nI_clamp' (by omega), nI_s]
    exact ih n (i + 1) _ (by omega) (by omega) (fun c h9 => by
      by_cases e : c = i
      · rw [e, updL_same]; rfl
      · rw [updL_ne _ _ e]; exact hc c (by omega))
theorem VW.take (h : VW numbers cells rows sizes rooms mem kn a l rm nb) {w g : Nat} (hw : w ≤ 2) (hg : g < 256) (cl : Nat → Int64) (det0 : Int64) : ∃ cl2, fX4_take cl det0 cells rows sizes (nI a) (nI w) (nI g) = some (cl2, i64 (D3 (sT nb l g w))) ∧ ∀ c, c < 9 → cl2 c = i64 (sT nb l g w c) := by
  obtain ⟨cl2, e1, e2⟩ := h.take_loop hw hg det0 9 FU 0 cl (by omega) (FU_gt (by omega)) (fun c hc => absurd hc (by omega))
  refine ⟨cl2, ?_, e2⟩
  have s := sT_sy nb l g w
  rw [fX4_take, lit_nI0, e1, fX4_take_31, lit_nI0, lit_nI1, lit_nI2, cCof s e2 (by omega) (by omega), Option.bind_some, cCof s e2 (by omega) (by omega), Option.bind_some, cCof s e2 (by omega) (by omega), Option.bind_some, e2 0 (by omega), e2 1 (by omega), e2 2 (by omega), ← i64_mul, ← i64_mul, ← i64_mul, ← i64_add, ← i64_add]
  rfl
end
theorem to64 (x : Int32) : x.toInt64 = i64 x.toInt := by
  have := i32_l (sm_of x)
  rw [i32_of] at this
  exact this
theorem cSolve_loop {T : Nat → Int} (hS : Sy T) {cl : Nat → Int64} (hc : ∀ c, c < 9 → cl c = i64 (T c)) (x y z : Int32) : ∀ (k n i : Nat) (p : Nat → Int64), i + k = 3 → k < n → (∀ c, c < i → p c = i64 (2 * S3 T x.toInt y.toInt z.toInt c)) → ∃ p2, fX4_solve_3 n cl p x y z (nI i) = some p2 ∧ ∀ c, c < 3 → p2 c = i64 (2 * S3 T x.toInt y.toInt z.toInt c) := by
  intro k
  induction k with
  | zero =>
    intro n i p hi hn hp
    obtain ⟨n, rfl, -⟩ := succ_of hn
    exact ⟨p, by rw [fX4_solve_3, lit_nI3, if_le_y (by omega) (by omega)], fun c h9 => hp c (by omega)⟩
  | succ k ih =>
    intro n i p hi hn hp
    obtain ⟨n, rfl, hn'⟩ := succ_of hn
    rw [fX4_solve_3, lit_nI3, if_le_n (by omega) (by omega), lit_nI0, lit_nI1, lit_nI2, cCof hS hc (by omega) (by omega), Option.bind_some, cCof hS hc (by omega) (by omega), Option.bind_some, cCof hS hc (by omega) (by omega), Option.bind_some, chkN (by omega) (by omega), nI_clamp' (by omega), nI_add, to64, to64, to64, ← i64_mul, ← i64_mul, ← i64_mul, ← i64_add, ← i64_add, show (2 : Int64) = i64 2 from rfl, ← i64_mul]
    exact ih n (i + 1) _ (by omega) (by omega) (fun c h9 => by
      by_cases e : c = i
      · rw [e, updL_same, S3, C3_sym T (show i < 3 by omega) (show 0 < 3 by omega), C3_sym T (show i < 3 by omega) (show 1 < 3 by omega), C3_sym T (show i < 3 by omega) (show 2 < 3 by omega)]
      · rw [updL_ne _ _ e]; exact hp c (by omega))
theorem cSolve {T : Nat → Int} (hS : Sy T) {cl : Nat → Int64} (hc : ∀ c, c < 9 → cl c = i64 (T c)) (p : Nat → Int64) (x y z : Int32) : ∃ p2, fX4_solve cl p x y z = some p2 ∧ ∀ c, c < 3 → p2 c = i64 (2 * S3 T x.toInt y.toInt z.toInt c) := by
  obtain ⟨p2, e1, e2⟩ := cSolve_loop hS hc x y z 3 FU 0 p (by omega) (FU_gt (by omega)) (fun c hc => absurd hc (by omega))
  exact ⟨p2, by rw [fX4_solve, lit_nI0]; exact e1, e2⟩
section
variable {numbers cells rows sizes rooms mem : Nat → Int32} {kn a : Nat} {l : List Nat} {rm : Nat} {nb : Nat → Int}
theorem VW.sumT (h : VW numbers cells rows sizes rooms mem kn a l rm nb) {row : Nat → Int32} (hr : RW row l) {w g i j : Nat} (hw : w ≤ 2) (hg : g < 256) (hi : i < 3) (hj : j < 3) : fX8_sum mem row (nI l.length) (nI g) (nI w) (nI i) (nI j) = some (i64 (sT nb l g w (3 * i + j))) := h.sum h.R h.lt hr hw hi hj hg
theorem VW.minor44 (h : VW numbers cells rows sizes rooms mem kn a l rm nb) {row : Nat → Int32} (hr : RW row l) {w g i j b c d e : Nat} (hw : w ≤ 2) (hg : g < 256) (hb : b < 3) (hc : c < 3) (hd : d < 3) (he : e < 3) (hi : i < 3) (hj : j < 3) : fX8_minor_44 mem row (nI l.length) (nI g) (nI w) (nI i) (nI j) (nI b) (nI c) (nI d) (nI e) = some (i64 (if (i + j) % 2 = 0 then sT nb l g w (3 * b + d) * sT nb l g w (3 * c + e) - sT nb l g w (3 * b + e) * sT nb l g w (3 * c + d) else -(sT nb l g w (3 * b + d) * sT nb l g w (3 * c + e) - sT nb l g w (3 * b + e) * sT nb l g w (3 * c + d)))) := by
  rw [fX8_minor_44, h.sumT hr hw hg hb hd, Option.bind_some, h.sumT hr hw hg hc he, Option.bind_some, h.sumT hr hw hg hb he, Option.bind_some, h.sumT hr hw hg hc hd, Option.bind_some, nI_add, lit_nI2, irem_nI (by omega) (by omega) (by omega), lit_nI0, ← i64_mul, ← i64_mul, ← i64_sub, ← i64_neg]
  by_cases q : (i + j) % 2 = 0
  · rw [if_eq_y q, if_pos q]
  · rw [if_eq_n q (by omega) (by omega), if_neg q]
theorem VW.minor (h : VW numbers cells rows sizes rooms mem kn a l rm nb) {row : Nat → Int32} (hr : RW row l) {w g i j : Nat} (hw : w ≤ 2) (hg : g < 256) (hi : i < 3) (hj : j < 3) : fX8_minor mem row (nI l.length) (nI g) (nI w) (nI i) (nI j) = some (i64 (C3 (sT nb l g w) i j)) := by
  obtain ⟨s1, s2, s3, s4⟩ := sT_sy nb l g w
  have hi' : i = 0 ∨ i = 1 ∨ i = 2 := by omega
  have hj' : j = 0 ∨ j = 1 ∨ j = 2 := by omega
  rw [fX8_minor]
  rcases hi' with rfl | rfl | rfl <;> rcases hj' with rfl | rfl | rfl <;> simp only [fX8_minor_9, fX8_minor_21, fX8_minor_32, zz00, zz01, zz02, zz10, zz11, zz12, zz20, zz21, zz22, if_true, if_false] <;> simp only [lit_nI0, lit_nI1, lit_nI2] <;> rw [h.minor44 hr hw hg (by omega) (by omega) (by omega) (by omega) (by omega) (by omega)] <;> congr 2 <;> simp only [C3, Nat.reduceMod, Nat.reduceAdd, Nat.reduceMul, if_true, s1, s2, s3, s4, Nat.zero_mod, Nat.one_mod, show ¬ (1 : Nat) = 0 by omega, show ¬ (2 : Nat) = 0 by omega, show ¬ (2 : Nat) = 1 by omega, if_false] <;> grind
theorem VW.detM (h : VW numbers cells rows sizes rooms mem kn a l rm nb) {row : Nat → Int32} (hr : RW row l) {w g : Nat} (hw : w ≤ 2) (hg : g < 256) : fX8_detOf mem row (nI l.length) (nI g) (nI w) = some (i64 (D3 (sT nb l g w))) := by
  rw [fX8_detOf, lit_nI0, lit_nI1, lit_nI2, h.sumT hr hw hg (by omega) (by omega), Option.bind_some, h.minor hr hw hg (by omega) (by omega), Option.bind_some, h.sumT hr hw hg (by omega) (by omega), Option.bind_some, h.minor hr hw hg (by omega) (by omega), Option.bind_some, h.sumT hr hw hg (by omega) (by omega), Option.bind_some, h.minor hr hw hg (by omega) (by omega), Option.bind_some, ← i64_mul, ← i64_mul, ← i64_mul, ← i64_add, ← i64_add]
  rfl
theorem VW.str_loop (h : VW numbers cells rows sizes rooms mem kn a l rm nb) {row : Nat → Int32} (hr : RW row l) {w g : Nat} (hw : w ≤ 2) (hg : g < 256) (x y z : Int) (dt : Int64) : ∀ (k n i : Nat) (p : Nat → Int64), i + k = 3 → k < n → (∀ c, c < i → p c = i64 (S3 (sT nb l g w) x y z c)) → ∃ p2, fX8_laysStrains_12 n mem row (nI l.length) (nI g) p dt (nI w) (i64 x) (i64 y) (i64 z) (nI i) = some (p2, dt) ∧ ∀ c, c < 3 → p2 c = i64 (S3 (sT nb l g w) x y z c) := by
  intro k
  induction k with
  | zero =>
    intro n i p hi hn hp
    obtain ⟨n, rfl, -⟩ := succ_of hn
    exact ⟨p, by rw [fX8_laysStrains_12, lit_nI3, if_le_y (by omega) (by omega)], fun c h9 => hp c (by omega)⟩
  | succ k ih =>
    intro n i p hi hn hp
    obtain ⟨n, rfl, hn'⟩ := succ_of hn
    rw [fX8_laysStrains_12, lit_nI3, if_le_n (by omega) (by omega), lit_nI0, lit_nI1, lit_nI2, h.minor hr hw hg (by omega) (by omega), Option.bind_some, h.minor hr hw hg (by omega) (by omega), Option.bind_some, h.minor hr hw hg (by omega) (by omega), Option.bind_some, chkN (by omega) (by omega), nI_clamp' (by omega), nI_add, ← i64_mul, ← i64_mul, ← i64_mul, ← i64_add, ← i64_add]
    exact ih n (i + 1) _ (by omega) (by omega) (fun c h9 => by
      by_cases e : c = i
      · rw [e, updL_same]; rfl
      · rw [updL_ne _ _ e]; exact hp c (by omega))
theorem VW.strM (h : VW numbers cells rows sizes rooms mem kn a l rm nb) {row : Nat → Int32} (hr : RW row l) {w g : Nat} (hw : w ≤ 2) (hg : g < 256) (x y z : Int) (p : Nat → Int64) (dt : Int64) : ∃ p2, fX8_laysStrains mem row (nI l.length) (nI g) p dt (nI w) (i64 x) (i64 y) (i64 z) = some (p2, i64 (D3 (sT nb l g w))) ∧ ∀ c, c < 3 → p2 c = i64 (S3 (sT nb l g w) x y z c) := by
  obtain ⟨p2, e1, e2⟩ := h.str_loop hr hw hg x y z (i64 (D3 (sT nb l g w))) 3 FU 0 p (by omega) (FU_gt (by omega)) (fun c hc => absurd hc (by omega))
  exact ⟨p2, by rw [fX8_laysStrains, h.detM hr hw hg, Option.bind_some, lit_nI0]; exact e1, e2⟩
end
/-- lowest terms -/
theorem lN_div {x y : Nat} (hx : x < 9223372036854775808) (hy : y < 9223372036854775808) : lN x / lN y = lN (x / y) := (Int64.ofNat_div (by omega) (by omega)).symm
theorem lN_sub' {x y : Nat} (h : y ≤ x) : lN x - lN y = lN (x - y) := (Int64.ofNat_sub x y h).symm
theorem lrem_lN {x y : Nat} (hx : x < 9223372036854775808) (hy : y < 9223372036854775808) (h0 : 0 < y) : lrem (lN x) (lN y) = lN (x % y) := by
  unfold lrem
  have hle : x / y * y ≤ x := Nat.div_mul_le_self x y
  rw [lN_div hx hy, lN_mul, lN_sub' hle]
  congr 1
  have := Nat.div_add_mod x y
  rw [Nat.mul_comm] at this
  omega
theorem lN_0 {y : Nat} (hy : y < 9223372036854775808) : lN y = 0 ↔ y = 0 := by
  constructor
  · intro q
    have e : (lN y).toInt = (lN 0).toInt := by rw [q]; rfl
    rw [lN_i64, lN_i64, i64_int ⟨by omega, by omega⟩, i64_int ⟨by omega, by omega⟩] at e
    omega
  · rintro rfl
    rfl
theorem nz_no {α β : Type} [DecidableEq α] [OfNat α 0] {y : α} {t : Option β} (h : ¬ y = 0) : nz y t = t := if_neg h
theorem gcd_cC {n x y v : Nat} (hv : v < 200) (hx : x < 9223372036854775808) (hy : y < 9223372036854775808) : fX4_commonDivisor_9 (n + 1) (lN x) (lN y) (nI v) = if y = 0 then some (lN x) else fX4_commonDivisor_9 n (lN y) (lN (x % y)) (nI (v + 1)) := by
  rw [fX4_commonDivisor_9, show (200 : Int32) = nI 200 from rfl, if_le_n (by omega) (by omega)]
  by_cases c : y = 0
  · rw [if_pos ((lg_cmp_eq _ _).mpr ((lN_0 hy).mpr c)), if_pos c]
  · rw [if_neg (fun q => c ((lN_0 hy).mp ((lg_cmp_eq _ _).mp q))), if_neg c, nz_no (fun q => c ((lN_0 hy).mp q)), lrem_lN hx hy (by omega), nI_s]
theorem gcd_cM {n x y : Nat} (hx : x < 9223372036854775808) (hy : y < 9223372036854775808) : fX8_common_12 (n + 1) (lN x) (lN y) = if y = 0 then some (lN x) else fX8_common_12 n (lN y) (lN (x % y)) := by
  rw [fX8_common_12]
  by_cases c : y = 0
  · rw [if_pos ((lg_cmp_eq _ _).mpr ((lN_0 hy).mpr c)), if_pos c]
  · rw [if_neg (fun q => c ((lN_0 hy).mp ((lg_cmp_eq _ _).mp q))), if_neg c, nz_no (fun q => c ((lN_0 hy).mp q)), lrem_lN hx hy (by omega)]
theorem gcd_both : ∀ (m n1 n2 x y v : Nat), x < 9223372036854775808 → y < 9223372036854775808 → y < 2 ^ m → 2 * m < n1 → 2 * m < n2 → v + 2 * m < 200 → fX4_commonDivisor_9 n1 (lN x) (lN y) (nI v) = some (lN (Nat.gcd x y)) ∧ fX8_common_12 n2 (lN x) (lN y) = some (lN (Nat.gcd x y)) := by
  intro m
  induction m with
  | zero =>
    intro n1 n2 x y v hx hy hm h1 h2 hv
    obtain ⟨n1, rfl, -⟩ := succ_of h1
    obtain ⟨n2, rfl, -⟩ := succ_of h2
    have y0 : y = 0 := by simp at hm; omega
    rw [gcd_cC (by omega) hx hy, gcd_cM hx hy, if_pos y0, if_pos y0, y0, Nat.gcd_zero_right]
    exact ⟨rfl, rfl⟩
  | succ m ih =>
    intro n1 n2 x y v hx hy hm h1 h2 hv
    obtain ⟨n1, rfl, h1'⟩ := succ_of h1
    obtain ⟨n2, rfl, h2'⟩ := succ_of h2
    rw [gcd_cC (by omega) hx hy, gcd_cM hx hy]
    by_cases c : y = 0
    · rw [if_pos c, if_pos c, c, Nat.gcd_zero_right]
      exact ⟨rfl, rfl⟩
    · rw [if_neg c, if_neg c]
      have r1 : x % y < y := Nat.mod_lt _ (by omega)
      have e1 : Nat.gcd x y = Nat.gcd y (x % y) := by rw [Nat.gcd_comm x y, Nat.gcd_rec y x, Nat.gcd_comm]
      obtain ⟨n1, rfl, h1''⟩ := succ_of (k := 0) (n := n1) (by omega)
      obtain ⟨n2, rfl, h2''⟩ := succ_of (k := 0) (n := n2) (by omega)
      rw [e1]
      generalize x % y = r at *
      rw [gcd_cC (by omega) hy (by omega), gcd_cM hy (by omega)]
      by_cases d : r = 0
      · rw [if_pos d, if_pos d, d, Nat.gcd_zero_right]
        exact ⟨rfl, rfl⟩
      · rw [if_neg d, if_neg d]
        have r2 : y % r < r := Nat.mod_lt _ (by omega)
        have e2 : Nat.gcd y r = Nat.gcd r (y % r) := by rw [Nat.gcd_comm y r, Nat.gcd_rec r y, Nat.gcd_comm]
        have r3 : 2 * (y % r) < y := by
          have q := Nat.div_add_mod y r
          have q1 : 1 ≤ y / r := (Nat.one_le_div_iff (by omega)).mpr (by omega)
          have q2 : r * 1 ≤ r * (y / r) := Nat.mul_le_mul_left r q1
          omega
        rw [e2]
        exact ih n1 n2 r (y % r) (v + 1 + 1) (by omega) (by omega) (by rw [Nat.pow_succ] at hm; omega) (by omega) (by omega) (by omega)
theorem labs_z {z : Int} (h : -9223372036854775807 ≤ z ∧ z ≤ 9223372036854775807) : labs (i64 z) = lN z.natAbs := by
  unfold labs
  rw [lN_i64]
  by_cases c : 0 < z
  · rw [if_pos, show (z.natAbs : Int) = z by omega]
    rw [show (0 : Int64) = i64 0 from rfl]
    exact (i64_lt ⟨by omega, by omega⟩ ⟨by omega, by omega⟩).mpr c
  · rw [if_neg, ← i64_neg, show (z.natAbs : Int) = -z by omega]
    rw [show (0 : Int64) = i64 0 from rfl]
    exact fun q => c ((i64_lt ⟨by omega, by omega⟩ ⟨by omega, by omega⟩).mp q)
theorem gcd_run {x y : Int} (hx : -9223372036854775807 ≤ x ∧ x ≤ 9223372036854775807) (hy : -9223372036854775807 ≤ y ∧ y ≤ 9223372036854775807) : fX4_commonDivisor (labs (i64 x)) (labs (i64 y)) = some (lN (Nat.gcd x.natAbs y.natAbs)) ∧ fX8_common (i64 x) (i64 y) = some (lN (Nat.gcd x.natAbs y.natAbs)) := by
  rw [fX4_commonDivisor, fX8_common, labs_z hx, labs_z hy, lit_nI0]
  exact gcd_both 63 FU FU _ _ 0 (by omega) (by omega) (by omega) (FU_gt (by omega)) (FU_gt (by omega)) (by omega)
theorem lN_neg1 (g : Nat) : lN g * (-1 : Int32).toInt64 = - lN g := by
  rw [show ((-1 : Int32)).toInt64 = i64 (-1) from rfl, lN_i64, ← i64_mul, ← i64_neg]
  congr 1
  omega
theorem lN_pos1 (g : Nat) : lN g * (1 : Int32).toInt64 = lN g := by
  rw [show ((1 : Int32)).toInt64 = i64 1 from rfl, lN_i64, ← i64_mul]
  congr 1
  omega
/-- class and model bring a fraction to lowest terms alike -/
def low (x y : Int) (what : Nat) : Int64 :=
  let g := lN (Nat.gcd x.natAbs y.natAbs)
  let m := if y < 0 then -g else g
  if what = 0 then i64 x / m else i64 y / m
theorem neg_ne {x : Int64} (h : ¬ x = 0) : ¬ -x = 0 := fun q => h (by have := congrArg (fun z => -z) q; simpa using this)
theorem low_both {x y : Int} {v : Int32} (hx : -9223372036854775807 ≤ x ∧ x ≤ 9223372036854775807) (hy : -9223372036854775807 ≤ y ∧ y ≤ 9223372036854775807) (h0 : ¬ y = 0) : fX4_inLowestTerms (i64 x) (i64 y) v = some (low x y (if v = 0 then 0 else 1)) ∧ fX8_part (i64 x) (i64 y) v = some (low x y (if v = 0 then 0 else 1)) := by
  obtain ⟨e1, e2⟩ := gcd_run hx hy
  have gp : 0 < Nat.gcd x.natAbs y.natAbs := Nat.gcd_pos_of_pos_right _ (by omega)
  have gl : Nat.gcd x.natAbs y.natAbs ≤ y.natAbs := Nat.gcd_le_right _ (by omega)
  have g0 : ¬ lN (Nat.gcd x.natAbs y.natAbs) = 0 := fun q => by have := (lN_0 (by omega)).mp q; omega
  have g1 := neg_ne g0
  rw [fX4_inLowestTerms, fX8_part, e1, e2, Option.bind_some, Option.bind_some, if_neg (fun q => g0 ((lg_cmp_eq _ _).mp q))]
  unfold low fX4_inLowestTerms_36 fX8_part_16
  simp only [lN_neg1, lN_pos1]
  have hc : (0 ≤ lg_cmp (i64 y) 0) ↔ ¬ y < 0 := by
    rw [lg_cmp_ge, show (0 : Int64) = i64 0 from rfl, i64_le ⟨by omega, by omega⟩ ⟨by omega, by omega⟩]
    omega
  generalize lN (Nat.gcd x.natAbs y.natAbs) = g at *
  by_cases c : y < 0
  · simp only [if_neg (fun q => hc.mp q c), if_pos c]
    by_cases d : v = 0
    · simp only [if_pos d, nz_no g1, if_true, and_self]
    · simp only [if_neg d, nz_no g1, show ¬ (1 : Nat) = 0 by omega, if_false, and_self]
  · simp only [if_pos (hc.mpr c), if_neg c]
    by_cases d : v = 0
    · simp only [if_pos d, nz_no g0, if_true, and_self]
    · simp only [if_neg d, nz_no g0, show ¬ (1 : Nat) = 0 by omega, if_false, and_self]
