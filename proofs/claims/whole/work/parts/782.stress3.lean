/-! how much plies are strained, and whether within limits -/
def al (S : Nat → Int) (q : Nat) : Int := if q = 0 then 2 * S 0 else if q = 3 then 2 * S 1 else if q = 1 then S 0 + S 1 + S 2 else S 0 + S 1 - S 2
def lm (nb : Nat → Int) (l : List Nat) (k : Nat) : Nat := (nb (5 * (l.getD k 0 / 4) + 4)).toNat
def AA (nb : Nat → Int) (l : List Nat) (g : Nat) (x y z : Int) (k : Nat) : Nat := (al (S3 (sT nb l g 0) x y z) (l.getD k 0 % 4)).natAbs
def DD (nb : Nat → Int) (l : List Nat) (g : Nat) : Nat := (D3 (sT nb l g 0)).natAbs
theorem nI64 {n : Nat} (h : n < 2147483648) : (nI n).toInt64 = lN n := by rw [to64, nI_int h, lN_i64]
theorem lN_le' {x y : Nat} (hx : x < 9223372036854775808) (hy : y < 9223372036854775808) : lN x ≤ lN y ↔ x ≤ y := by
  rw [lN_i64, lN_i64, i64_le ⟨by omega, by omega⟩ ⟨by omega, by omega⟩]
  omega
theorem cAl {S : Nat → Int} {p : Nat → Int64} (hp : ∀ c, c < 3 → p c = i64 (2 * S c)) {q : Nat} (hq : q < 4) : fX4_along p (nI q) = some (i64 (2 * al S q)) := by
  have hq' : q = 0 ∨ q = 1 ∨ q = 2 ∨ q = 3 := by omega
  rw [fX4_along, hp 0 (by omega), hp 1 (by omega), hp 2 (by omega), show (2 : Int64) = i64 2 from rfl, ← i64_mul, ← i64_mul, ← i64_add, ← i64_add, ← i64_sub]
  rcases hq' with rfl | rfl | rfl | rfl
  · rw [if_pos (show nI 0 = 0 from rfl)]
    congr 2
  · rw [if_neg (by decide), if_pos (show nI 1 = 1 from rfl)]
    congr 2
    show _ = 2 * (S 0 + S 1 + S 2)
    omega
  · rw [if_neg (by decide), if_neg (by decide), if_pos (show nI 2 = 2 from rfl)]
    congr 2
    show _ = 2 * (S 0 + S 1 - S 2)
    omega
  · rw [if_neg (by decide), if_neg (by decide), if_neg (by decide)]
    congr 2
theorem al_bd {S : Nat → Int} {B : Nat} (h : ∀ c, c < 3 → -(B : Int) ≤ S c ∧ S c ≤ B) (q : Nat) : -((3 * B : Nat) : Int) ≤ al S q ∧ al S q ≤ (3 * B : Nat) := by
  have h0 := h 0 (by omega)
  have h1 := h 1 (by omega)
  have h2 := h 2 (by omega)
  unfold al
  repeat' split
  all_goals omega
section
variable {numbers cells rows sizes rooms mem : Nat → Int32} {kn a : Nat} {l : List Nat} {rm : Nat} {nb : Nat → Int}
theorem VW.lm_bd (h : VW numbers cells rows sizes rooms mem kn a l rm nb) {k : Nat} (hk : k < l.length) : (1 ≤ lm nb l k ∧ lm nb l k ≤ 999) ∧ nb (5 * (l.getD k 0 / 4) + 4) = (lm nb l k : Int) ∧ l.getD k 0 / 4 < kn := by
  have h1 := h.lt _ (getD_mem hk)
  have h2 := (h.nbs (l.getD k 0 / 4) (by omega)).2.2.2.2
  unfold lm
  omega
theorem VW.limC (h : VW numbers cells rows sizes rooms mem kn a l rm nb) {k : Nat} (hk : k < l.length) : fX1_limitAt numbers rows (nI a) (nI k) = some (nI (lm nb l k)) := by
  have l8 := h.len
  obtain ⟨h1, h2, h3⟩ := h.lm_bd hk
  have g := getD_lt12 h.R k
  rw [fX1_limitAt, h.row, Option.bind_some, typeAt_pk h.R (by omega), lit_nI4, idiv_nI (by omega) (by omega), cNumber h h3 (by omega), Option.bind_some, h2, nI_i32]
theorem VW.limM (h : VW numbers cells rows sizes rooms mem kn a l rm nb) {row : Nat → Int32} (hr : RW row l) {k : Nat} (hk : k < l.length) : fX8_limitOf mem row (nI k) = some (lN (lm nb l k)) := by
  have l8 := h.len
  obtain ⟨h1, h2, h3⟩ := h.lm_bd hk
  have g := getD_lt12 h.R k
  have k3 := h.kn3
  rw [fX8_limitOf, chkN (by omega) (by omega), nI_clamp' (by omega), hr k hk, lit_nI4, lit_nI5, idiv_nI (by omega) (by omega), nI_mul, nI_add, nI_add, chkN (by omega) (by omega), nI_clamp' (by omega), show 4 + 5 * (l.getD k 0 / 4) + 4 = 4 + (5 * (l.getD k 0 / 4) + 4) by omega, h.mk.2 _ (by omega), h2, ← nI_i32, nI64 (by omega)]
theorem VW.aa_bd (h : VW numbers cells rows sizes rooms mem kn a l rm nb) (g : Nat) {x y z : Int} (hx : -999 ≤ x ∧ x ≤ 999) (hy : -999 ≤ y ∧ y ≤ 999) (hz : -999 ≤ z ∧ z ≤ 999) (q : Nat) : -((3 * (3 * (2 * (4800 * 4800) * 999)) : Nat) : Int) ≤ al (S3 (sT nb l g 0) x y z) q ∧ al (S3 (sT nb l g 0) x y z) q ≤ (3 * (3 * (2 * (4800 * 4800) * 999)) : Nat) := al_bd (fun c _ => S3_bd (h.sT_bd0 g) hx hy hz c) q
theorem VW.dd_bd (h : VW numbers cells rows sizes rooms mem kn a l rm nb) (g : Nat) : DD nb l g ≤ 3 * (4800 * (2 * (4800 * 4800))) := by
  have := D3_bd (h.sT_bd0 g)
  unfold DD
  omega
theorem VW.strC2 (h : VW numbers cells rows sizes rooms mem kn a l rm nb) {g : Nat} {x y z : Int} (hx : -999 ≤ x ∧ x ≤ 999) (hy : -999 ≤ y ∧ y ≤ 999) (hz : -999 ≤ z ∧ z ≤ 999) {p : Nat → Int64} (hp : ∀ c, c < 3 → p c = i64 (2 * S3 (sT nb l g 0) x y z c)) {k : Nat} (hk : k < l.length) : fX4_strainedAt p rows (nI a) (nI k) = some (lN (2 * AA nb l g x y z k)) := by
  have l8 := h.len
  have b := h.aa_bd g hx hy hz (l.getD k 0 % 4)
  rw [fX4_strainedAt, h.row, Option.bind_some, angleAt_pk h.R (by omega), cAl hp (Nat.mod_lt _ (by omega)), Option.bind_some, labs_z ⟨by omega, by omega⟩]
  congr 2
  unfold AA
  omega
theorem VW.alM (h : VW numbers cells rows sizes rooms mem kn a l rm nb) {row : Nat → Int32} (hr : RW row l) {g : Nat} {x y z : Int} (hx : -999 ≤ x ∧ x ≤ 999) (hy : -999 ≤ y ∧ y ≤ 999) (hz : -999 ≤ z ∧ z ≤ 999) {p : Nat → Int64} (hp : ∀ c, c < 3 → p c = i64 (S3 (sT nb l g 0) x y z c)) {k : Nat} (hk : k < l.length) : fX8_along row p (nI k) = some (lN (AA nb l g x y z k)) := by
  have l8 := h.len
  have b := h.aa_bd g hx hy hz (l.getD k 0 % 4)
  have gl := getD_lt12 h.R k
  have key : ∀ w : Int, w = al (S3 (sT nb l g 0) x y z) (l.getD k 0 % 4) → some (labs (i64 w)) = some (lN (AA nb l g x y z k)) := by
    intro w hw
    rw [hw, labs_z ⟨by omega, by omega⟩]
    rfl
  rw [fX8_along, chkN (by omega) (by omega), nI_clamp' (by omega), hr k hk, lit_nI4, irem_nI (by omega) (by omega) (by omega), hp 0 (by omega), hp 1 (by omega), hp 2 (by omega), show (2 : Int64) = i64 2 from rfl, ← i64_mul, ← i64_mul, ← i64_add, ← i64_neg]
  unfold fX8_along_78 fX8_along_79
  rw [← i64_add, ← i64_add]
  unfold al at key
  have hq' : l.getD k 0 % 4 = 0 ∨ l.getD k 0 % 4 = 1 ∨ l.getD k 0 % 4 = 2 ∨ l.getD k 0 % 4 = 3 := by omega
  rcases hq' with e | e | e | e
  · rw [e, if_pos (show nI 0 = 0 from rfl)]
    exact key _ (by rw [e]; rfl)
  · rw [e, if_neg (by decide), if_neg (by decide), if_pos (show nI 1 = 1 from rfl)]
    exact key _ (by rw [e]; rfl)
  · rw [e, if_neg (by decide), if_neg (by decide), if_neg (by decide)]
    exact key _ (by rw [e]; rfl)
  · rw [e, if_neg (by decide), if_pos (show nI 3 = 3 from rfl)]
    exact key _ (by rw [e]; rfl)
theorem VW.boundC (h : VW numbers cells rows sizes rooms mem kn a l rm nb) (g : Nat) {k : Nat} (hk : k < l.length) : fX4_bound (i64 (D3 (sT nb l g 0))) numbers rows (nI a) (nI k) = some (lN (lm nb l k * 2 * DD nb l g)) := by
  obtain ⟨h1, h2, h3⟩ := h.lm_bd hk
  have := D3_bd (h.sT_bd0 g)
  rw [fX4_bound, h.limC hk, Option.bind_some, lit_nI2, nI_mul, nI64 (by omega), labs_z ⟨by omega, by omega⟩, lN_mul]
  rfl
def winL (L A : Nat → Nat) (D g : Nat) : Nat → Nat → Bool
  | 0, _ => true
  | k + 1, i => if g.testBit i then winL L A D g k (i + 1) else if A i ≤ L i * D then winL L A D g k (i + 1) else false
def WW (nb : Nat → Int) (l : List Nat) (x y z : Int) (g : Nat) : Bool := if D3 (sT nb l g 0) = 0 then false else winL (lm nb l) (AA nb l g x y z) (DD nb l g) g l.length 0
theorem dl_bd {L D : Nat} (hL : L ≤ 999) (hD : D ≤ 3 * (4800 * (2 * (4800 * 4800)))) : L * D ≤ 999 * (3 * (4800 * (2 * (4800 * 4800)))) := Nat.mul_le_mul hL hD
theorem VW.winC_loop (h : VW numbers cells rows sizes rooms mem kn a l rm nb) {g : Nat} (hg : g < 256) {x y z : Int} (hx : -999 ≤ x ∧ x ≤ 999) (hy : -999 ≤ y ∧ y ≤ 999) (hz : -999 ≤ z ∧ z ≤ 999) {cl p : Nat → Int64} (hp : ∀ c, c < 3 → p c = i64 (2 * S3 (sT nb l g 0) x y z c)) : ∀ (k n i : Nat), i + k = l.length → k < n → fX4_withinLimits_30 n cl p (i64 (D3 (sT nb l g 0))) numbers rows sizes (nI a) (nI g) (nI i) = some (b32 (winL (lm nb l) (AA nb l g x y z) (DD nb l g) g k i), cl, p, i64 (D3 (sT nb l g 0))) := by
  have l8 := h.len
  have bD := h.dd_bd g
  intro k
  induction k with
  | zero =>
    intro n i hi hn
    obtain ⟨n, rfl, -⟩ := succ_of hn
    rw [fX4_withinLimits_30, h.plies, Option.bind_some, if_le_y (by omega) (by omega), winL]
    rfl
  | succ k ih =>
    intro n i hi hn
    obtain ⟨n, rfl, hn'⟩ := succ_of hn
    have il : i < l.length := by omega
    obtain ⟨h1, h2, h3⟩ := h.lm_bd il
    have bA := h.aa_bd g hx hy hz (l.getD i 0 % 4)
    have bl := dl_bd h1.2 bD
    have bA' : AA nb l g x y z i ≤ 3 * (3 * (2 * (4800 * 4800) * 999)) := by unfold AA; omega
    rw [fX4_withinLimits_30, h.plies, Option.bind_some, if_le_n (by omega) (by omega), bitAt g hg i (by omega), winL]
    simp only [fX4_withinLimits_68, nI_s]
    by_cases b : g.testBit i = true
    · rw [if_pos b, if_pos b, if_neg (by decide), ih n (i + 1) (by omega) (by omega)]
    · rw [if_neg b, if_neg b, if_pos rfl, h.strC2 hx hy hz hp il, Option.bind_some, h.boundC g il, Option.bind_some]
      have e : lm nb l i * 2 * DD nb l g = 2 * (lm nb l i * DD nb l g) := by rw [Nat.mul_comm (lm nb l i) 2, Nat.mul_assoc]
      rw [e]
      have hc : lg_cmp (lN (2 * AA nb l g x y z i)) (lN (2 * (lm nb l i * DD nb l g))) ≤ 0 ↔ AA nb l g x y z i ≤ lm nb l i * DD nb l g := by
        rw [lg_cmp_le, lN_le' (by omega) (by omega)]
        omega
      by_cases d : AA nb l g x y z i ≤ lm nb l i * DD nb l g
      · rw [if_pos (hc.mpr d), if_pos d, ih n (i + 1) (by omega) (by omega)]
      · rw [if_neg (fun q => d (hc.mp q)), if_neg d]
        rfl
theorem D3_0 {nb : Nat → Int} {l : List Nat} {g : Nat} (b : -((3 * (4800 * (2 * (4800 * 4800))) : Nat) : Int) ≤ D3 (sT nb l g 0) ∧ D3 (sT nb l g 0) ≤ (3 * (4800 * (2 * (4800 * 4800))) : Nat)) : lg_cmp (i64 (D3 (sT nb l g 0))) 0 = 0 ↔ D3 (sT nb l g 0) = 0 := by
  rw [lg_cmp_eq, show (0 : Int64) = i64 0 from rfl, i64_eq ⟨by omega, by omega⟩ ⟨by omega, by omega⟩]
theorem VW.withinC (h : VW numbers cells rows sizes rooms mem kn a l rm nb) {g : Nat} (hg : g < 256) {x y z : Int32} (hx : ld x) (hy : ld y) (hz : ld z) (cl0 p0 : Nat → Int64) (d0 : Int64) : ∃ cl p d, fX4_withinLimits cl0 p0 d0 numbers cells rows sizes (nI a) (nI g) x y z = some (b32 (WW nb l x.toInt y.toInt z.toInt g), cl, p, d) := by
  obtain ⟨cl, a1, a2⟩ := h.take (w := 0) (by omega) hg cl0 d0
  obtain ⟨p, b1, b2⟩ := cSolve (sT_sy nb l g 0) a2 p0 x y z
  have bd := D3_0 (D3_bd (h.sT_bd0 g))
  have w := h.winC_loop hg hx hy hz (cl := cl) b2 l.length FU 0 (by omega) (FU_gt (by have := h.len; omega))
  rw [← lit_nI0] at a1
  by_cases e : D3 (sT nb l g 0) = 0
  · refine ⟨cl, p0, i64 (D3 (sT nb l g 0)), ?_⟩
    rw [fX4_withinLimits, a1, ob2_some, if_pos (bd.mpr e), WW, if_pos e]
    rfl
  · refine ⟨cl, p, i64 (D3 (sT nb l g 0)), ?_⟩
    rw [fX4_withinLimits, a1, ob2_some, if_neg (fun q => e (bd.mp q)), b1, Option.bind_some, WW, if_neg e]
    exact w
theorem VW.winM_loop (h : VW numbers cells rows sizes rooms mem kn a l rm nb) {row : Nat → Int32} (hr : RW row l) {g : Nat} (hg : g < 256) {x y z : Int} (hx : -999 ≤ x ∧ x ≤ 999) (hy : -999 ≤ y ∧ y ≤ 999) (hz : -999 ≤ z ∧ z ≤ 999) {p : Nat → Int64} (hp : ∀ c, c < 3 → p c = i64 (S3 (sT nb l g 0) x y z c)) (hd : ¬ D3 (sT nb l g 0) = 0) : ∀ (k n i : Nat), i + k = l.length → k < n → fX8_isWithin_12 n mem row (nI l.length) (nI g) p (i64 (D3 (sT nb l g 0))) (nI i) = some (b32 (winL (lm nb l) (AA nb l g x y z) (DD nb l g) g k i), p, i64 (D3 (sT nb l g 0))) := by
  have l8 := h.len
  have bD := h.dd_bd g
  have bd0 := D3_bd (h.sT_bd0 g)
  have bd := D3_0 bd0
  intro k
  induction k with
  | zero =>
    intro n i hi hn
    obtain ⟨n, rfl, -⟩ := succ_of hn
    rw [fX8_isWithin_12, if_le_y (by omega) (by omega), fX8_isWithin_74, if_neg (fun q => hd (bd.mp q)), winL]
    rfl
  | succ k ih =>
    intro n i hi hn
    obtain ⟨n, rfl, hn'⟩ := succ_of hn
    have il : i < l.length := by omega
    obtain ⟨h1, h2, h3⟩ := h.lm_bd il
    have bA := h.aa_bd g hx hy hz (l.getD i 0 % 4)
    have bl := dl_bd h1.2 bD
    have bA' : AA nb l g x y z i ≤ 3 * (3 * (2 * (4800 * 4800) * 999)) := by unfold AA; omega
    rw [fX8_isWithin_12, if_le_n (by omega) (by omega), if_neg (fun q => hd (bd.mp q)), mHas hg (by omega), winL]
    simp only [fX8_isWithin_68, nI_s]
    by_cases b : g.testBit i = true
    · rw [if_pos b, if_pos b, if_neg (by decide), ih n (i + 1) (by omega) (by omega)]
    · rw [if_neg b, if_neg b, if_pos rfl, h.alM hr hx hy hz hp il, Option.bind_some, h.limM hr il, Option.bind_some, labs_z ⟨by omega, by omega⟩, lN_mul]
      have hc : lg_cmp (lN (AA nb l g x y z i)) (lN (lm nb l i * (D3 (sT nb l g 0)).natAbs)) ≤ 0 ↔ AA nb l g x y z i ≤ lm nb l i * DD nb l g := by
        rw [lg_cmp_le]
        exact lN_le' (by omega) (by show lm nb l i * DD nb l g < _; omega)
      by_cases d : AA nb l g x y z i ≤ lm nb l i * DD nb l g
      · rw [if_pos (hc.mpr d), if_pos d, ih n (i + 1) (by omega) (by omega)]
      · rw [if_neg (fun q => d (hc.mp q)), if_neg d]
        rfl
theorem VW.withinM (h : VW numbers cells rows sizes rooms mem kn a l rm nb) {row : Nat → Int32} (hr : RW row l) {g : Nat} (hg : g < 256) {x y z : Int} (hx : -999 ≤ x ∧ x ≤ 999) (hy : -999 ≤ y ∧ y ≤ 999) (hz : -999 ≤ z ∧ z ≤ 999) (p0 : Nat → Int64) (d0 : Int64) : ∃ p d, fX8_isWithin mem row (nI l.length) (nI g) p0 d0 (i64 x) (i64 y) (i64 z) = some (b32 (WW nb l x y z g), p, d) := by
  have l8 := h.len
  obtain ⟨p, a1, a2⟩ := h.strM hr (w := 0) (by omega) hg x y z p0 d0
  have bd := D3_0 (D3_bd (h.sT_bd0 g))
  refine ⟨p, i64 (D3 (sT nb l g 0)), ?_⟩
  rw [← lit_nI0] at a1
  rw [fX8_isWithin, a1, ob2_some, WW]
  by_cases e : D3 (sT nb l g 0) = 0
  · rw [if_pos e]
    obtain ⟨f, hf⟩ := FU_10
    rw [show fX8_isWithin_12 FU = fX8_isWithin_12 (f + 9 + 1) by rw [hf], fX8_isWithin_12, fX8_isWithin_74, if_pos (bd.mpr e), if_pos (bd.mpr e)]
    split <;> rfl
  · rw [if_neg e, lit_nI0]
    exact h.winM_loop hr hg hx hy hz a2 e l.length FU 0 (by omega) (FU_gt (by omega))
/-- spared -/
theorem VW.spared (h : VW numbers cells rows sizes rooms mem kn a l rm nb) {row : Nat → Int32} (hr : RW row l) {x y z : Int32} (hx : ld x) (hy : ld y) (hz : ld z) : ∀ (k n m i : Nat) (acc : Int32) (cl p : Nat → Int64) (d : Int64) (lost : Int32) (st : Nat → Int64) (dt : Int64), i + k = l.length → k < n → k < m → ∃ (r : Int32) (cl2 p2 : Nat → Int64) (d2 : Int64) (lost2 : Int32) (st2 : Nat → Int64) (dt2 : Int64), fX7_spared_19 n numbers cells rows sizes (nI a) cl p d x y z acc (nI i) = some (r, cl2, p2, d2) ∧ fX8_spared_29 m mem row (nI l.length) lost st dt x y z acc (nI i) = some (r, row, nI l.length, lost2, st2, dt2) := by
  have l8 := h.len
  intro k
  induction k with
  | zero =>
    intro n m i acc cl p d lost st dt hi hn hm
    obtain ⟨n, rfl, -⟩ := succ_of hn
    obtain ⟨m, rfl, -⟩ := succ_of hm
    exact ⟨acc, cl, p, d, lost, st, dt, by rw [fX7_spared_19, h.plies, Option.bind_some, if_le_y (by omega) (by omega)], by rw [fX8_spared_29, if_le_y (by omega) (by omega)]⟩
  | succ k ih =>
    intro n m i acc cl p d lost st dt hi hn hm
    obtain ⟨n, rfl, hn'⟩ := succ_of hn
    obtain ⟨m, rfl, hm'⟩ := succ_of hm
    obtain ⟨cl2, p2, d2, e1⟩ := h.withinC (pow8 i (by omega)) hx hy hz cl p d
    obtain ⟨st2, dt2, e2⟩ := h.withinM hr (pow8 i (by omega)) hx hy hz st dt
    rw [fX7_spared_19, h.plies, Option.bind_some, if_le_n (by omega) (by omega), bit1 i (by omega), e1, ob4_some, fX8_spared_29, if_le_n (by omega) (by omega), bit1 i (by omega), to64, to64, to64, e2, ob3_some]
    simp only [fX7_spared_61, fX8_spared_69, nI_s]
    cases WW nb l x.toInt y.toInt z.toInt (2 ^ i) with
    | false =>
      rw [if_pos (show b32 false = 0 from rfl), if_pos (show b32 false = 0 from rfl), show acc ||| 0 = acc by simp]
      exact ih n m (i + 1) acc cl2 p2 d2 _ st2 dt2 (by omega) (by omega) (by omega)
    | true =>
      rw [if_neg (show ¬ b32 true = 0 by decide), if_neg (show ¬ b32 true = 0 by decide)]
      exact ih n m (i + 1) _ cl2 p2 d2 _ st2 dt2 (by omega) (by omega) (by omega)
end
/-- the least of the smallest sets -/
def fewC (W : Nat → Bool) : Nat → Nat → Nat → Nat
  | 0, _, b => b
  | k + 1, s, b => fewC W k (s + 1) (if pop b ≤ pop s then b else if W s then b else s)
def fewM (W : Nat → Bool) : Nat → Nat → Nat
  | 0, b => b
  | k + 1, b => fewM W k (if pop b < pop k then b else if W k then b else k)
def FW (W : Nat → Bool) (all r : Nat) : Prop := W r = false ∧ r ≤ all ∧ ∀ t, t ≤ all → W t = false → pop r < pop t ∨ (pop r = pop t ∧ r ≤ t)
theorem FW_one {W : Nat → Bool} {all r s : Nat} (h1 : FW W all r) (h2 : FW W all s) : r = s := by
  have a1 := h1.2.2 s h2.2.1 h2.1
  have a2 := h2.2.2 r h1.2.1 h1.1
  omega
theorem fewC_spec {W : Nat → Bool} {all : Nat} (hA : ∀ s, s < all → pop s < pop all) : ∀ (k s b : Nat), s + k = all → W b = false → (b = all ∨ b < s) → (∀ t, t < s → W t = false → pop b < pop t ∨ (pop b = pop t ∧ b ≤ t)) → FW W all (fewC W k s b) := by
  intro k
  induction k with
  | zero =>
    intro s b hs hW hb hf
    rw [fewC]
    refine ⟨hW, by omega, fun t ht hw => ?_⟩
    by_cases e : t = all
    · rcases hb with q | q
      · exact Or.inr ⟨by rw [q, e], by omega⟩
      · have := hA b (by omega)
        rw [e]
        exact Or.inl this
    · exact hf t (by omega) hw
  | succ k ih =>
    intro s b hs hW hb hf
    rw [fewC]
    have hs' := hA s (by omega)
    by_cases c : pop b ≤ pop s
    · rw [if_pos c]
      refine ih (s + 1) b (by omega) hW (by omega) (fun t ht hw => ?_)
      by_cases e : t = s
      · rw [e]
        rcases hb with q | q
        · rw [q] at c; omega
        · omega
      · exact hf t (by omega) hw
    · rw [if_neg c]
      by_cases d : W s = true
      · rw [if_pos d]
        refine ih (s + 1) b (by omega) hW (by omega) (fun t ht hw => ?_)
        by_cases e : t = s
        · rw [e, d] at hw
          exact absurd hw (by decide)
        · exact hf t (by omega) hw
      · rw [if_neg d]
        refine ih (s + 1) s (by omega) (Bool.eq_false_iff.mpr d) (by omega) (fun t ht hw => ?_)
        by_cases e : t = s
        · rw [e]; exact Or.inr ⟨rfl, Nat.le_refl _⟩
        · have := hf t (by omega) hw
          exact Or.inl (by omega)
theorem fewM_spec {W : Nat → Bool} {all : Nat} : ∀ (k b : Nat), W b = false → k ≤ b → b ≤ all → (∀ t, k ≤ t → t ≤ all → W t = false → pop b < pop t ∨ (pop b = pop t ∧ b ≤ t)) → FW W all (fewM W k b) := by
  intro k
  induction k with
  | zero =>
    intro b hW hk hb hf
    rw [fewM]
    exact ⟨hW, hb, fun t ht hw => hf t (by omega) ht hw⟩
  | succ k ih =>
    intro b hW hk hb hf
    rw [fewM]
    by_cases c : pop b < pop k
    · rw [if_pos c]
      refine ih b hW (by omega) hb (fun t h1 h2 hw => ?_)
      by_cases e : t = k
      · rw [e]; exact Or.inl c
      · exact hf t (by omega) h2 hw
    · rw [if_neg c]
      by_cases d : W k = true
      · rw [if_pos d]
        refine ih b hW (by omega) hb (fun t h1 h2 hw => ?_)
        by_cases e : t = k
        · rw [e, d] at hw
          exact absurd hw (by decide)
        · exact hf t (by omega) h2 hw
      · rw [if_neg d]
        refine ih k (Bool.eq_false_iff.mpr d) (by omega) (by omega) (fun t h1 h2 hw => ?_)
        by_cases e : t = k
        · rw [e]; exact Or.inr ⟨rfl, Nat.le_refl _⟩
        · have := hf t (by omega) h2 hw
          omega
theorem few_same {W : Nat → Bool} {all : Nat} (hA : ∀ s, s < all → pop s < pop all) (h0 : W all = false) : fewC W all 0 all = fewM W (all + 1) all := by
  refine FW_one (W := W) (all := all) (fewC_spec hA all 0 all (by omega) h0 (Or.inl rfl) (fun t ht => absurd ht (by omega))) ?_
  rw [fewM, if_neg (by omega), if_neg (by rw [h0]; decide)]
  refine fewM_spec all all h0 (by omega) (by omega) (fun t h1 h2 _ => Or.inr ⟨?_, by omega⟩)
  rw [show t = all by omega]
theorem popA : ∀ n, n < 9 → ∀ s, s < 2 ^ n - 1 → pop s < pop (2 ^ n - 1) := by decide +kernel
theorem totG_gone {ce : Nat → Int} {n w c g : Nat} : ∀ (l : List Nat) (k : Nat), (∀ i, k ≤ i → i < k + l.length → g.testBit i = true) → totG ce n w c g k l = 0
  | [], k, _ => rfl
  | t :: l, k, h => by
    rw [totG, if_pos (h k (by omega) (by simp)), totG_gone l (k + 1) (fun i h1 h2 => h i (by omega) (by simp; omega))]
    rfl
theorem WW_all (nb : Nat → Int) (l : List Nat) (x y z : Int) : WW nb l x y z (2 ^ l.length - 1) = false := by
  have h : ∀ c, sT nb l (2 ^ l.length - 1) 0 c = 0 := fun c => totG_gone l 0 (fun i _ h2 => by rw [Nat.testBit_two_pow_sub_one]; exact decide_eq_true (by omega))
  rw [WW, if_pos]
  unfold D3
  rw [h 0, h 1, h 2]
  simp
section
variable {numbers cells rows sizes rooms mem : Nat → Int32} {kn a : Nat} {l : List Nat} {rm : Nat} {nb : Nat → Int}
theorem VW.fewC_loop (h : VW numbers cells rows sizes rooms mem kn a l rm nb) {x y z : Int32} (hx : ld x) (hy : ld y) (hz : ld z) : ∀ (k n s b : Nat) (cl p : Nat → Int64) (d : Int64), s + k = 2 ^ l.length - 1 → k < n → b ≤ 2 ^ l.length - 1 → ∃ (cl2 p2 : Nat → Int64) (d2 : Int64), fX4_fewestLost_9 n cl p d numbers cells rows sizes (nI a) x y z (nI b) (nI s) = some (nI (fewC (WW nb l x.toInt y.toInt z.toInt) k s b), cl2, p2, d2) := by
  have b9 := pow9 _ (hi_bit h.R)
  intro k
  induction k with
  | zero =>
    intro n s b cl p d hs hn hb
    obtain ⟨n, rfl, -⟩ := succ_of hn
    exact ⟨cl, p, d, by rw [fX4_fewestLost_9, h.all, Option.bind_some, if_le_y (by omega) (by omega), fewC]⟩
  | succ k ih =>
    intro n s b cl p d hs hn hb
    obtain ⟨n, rfl, hn'⟩ := succ_of hn
    have p1 := pop_le8 b
    have p2 := pop_le8 s
    rw [fX4_fewestLost_9, h.all, Option.bind_some, if_le_n (by omega) (by omega), bc b (by omega), bc s (by omega), fewC]
    simp only [fX4_fewestLost_49, nI_s]
    by_cases c : pop b ≤ pop s
    · rw [if_le_y c (by omega), if_pos c]
      exact ih n (s + 1) b cl p d (by omega) (by omega) hb
    · obtain ⟨cl2, p2, d2, e1⟩ := h.withinC (g := s) (by omega) hx hy hz cl p d
      rw [if_le_n (by omega) (by omega), if_neg c, e1, ob4_some]
      cases WW nb l x.toInt y.toInt z.toInt s with
      | false =>
        rw [if_pos (show b32 false = 0 from rfl), if_neg (by decide)]
        exact ih n (s + 1) s cl2 p2 d2 (by omega) (by omega) (by omega)
      | true =>
        rw [if_neg (show ¬ b32 true = 0 by decide), if_pos rfl]
        exact ih n (s + 1) b cl2 p2 d2 (by omega) (by omega) hb
theorem VW.fewM_loop (h : VW numbers cells rows sizes rooms mem kn a l rm nb) {row : Nat → Int32} (hr : RW row l) {x y z : Int32} (hx : ld x) (hy : ld y) (hz : ld z) : ∀ (k n b : Nat) (lost : Int32) (st : Nat → Int64) (dt : Int64), k ≤ 2 ^ l.length → k < n → b ≤ 2 ^ l.length - 1 → ∃ (lost2 : Int32) (st2 : Nat → Int64) (dt2 : Int64), fX8_weakest_24 n mem row (nI l.length) lost st dt x y z (nI b) (i32 ((k : Int) - 1)) = some (nI (fewM (WW nb l x.toInt y.toInt z.toInt) k b), row, nI l.length, lost2, st2, dt2) := by
  have b9 := pow9 _ (hi_bit h.R)
  intro k
  induction k with
  | zero =>
    intro n b lost st dt hk hn hb
    obtain ⟨n, rfl, -⟩ := succ_of hn
    exact ⟨lost, st, dt, by rw [fX8_weakest_24, if_pos (by decide), fewM]⟩
  | succ k ih =>
    intro n b lost st dt hk hn hb
    obtain ⟨n, rfl, hn'⟩ := succ_of hn
    have p1 := pop_le8 b
    have p2 := pop_le8 k
    have e0 : i32 (((k + 1 : Nat) : Int) - 1) = nI k := by rw [nI_i32]; congr 1; omega
    have e1 : nI k + (-1 : Int32) = i32 ((k : Int) - 1) := by
      rw [nI_i32, show (-1 : Int32) = i32 (-1) from rfl, ← i32_add]
      congr 1
    rw [e0, fX8_weakest_24, lit_nI0, if_lt_n (by omega) (by omega), bc b (by omega), bc k (by omega), fewM]
    simp only [fX8_weakest_65, e1]
    by_cases c : pop b < pop k
    · rw [if_lt_y c (by omega), if_pos c]
      exact ih n b _ st dt (by omega) (by omega) hb
    · obtain ⟨st2, dt2, e2⟩ := h.withinM hr (g := k) (by omega) hx hy hz st dt
      rw [if_lt_n (by omega) (by omega), if_neg c, to64, to64, to64, e2, ob3_some]
      cases WW nb l x.toInt y.toInt z.toInt k with
      | false =>
        rw [if_pos (show b32 false = nI 0 from rfl), if_neg (by decide)]
        exact ih n k _ st2 dt2 (by omega) (by omega) (by omega)
      | true =>
        rw [if_neg (show ¬ b32 true = nI 0 by decide), if_pos rfl]
        exact ih n b _ st2 dt2 (by omega) (by omega) hb
theorem VW.frail (h : VW numbers cells rows sizes rooms mem kn a l rm nb) {x y z : Int32} (hx : ld x) (hy : ld y) (hz : ld z) (cl p : Nat → Int64) (d : Int64) (row : Nat → Int32) (wide lost : Int32) (st : Nat → Int64) (dt : Int64) : ∃ (r : Nat) (cl2 p2 : Nat → Int64) (d2 : Int64) (row2 : Nat → Int32) (wide2 lost2 : Int32) (st2 : Nat → Int64) (dt2 : Int64), r < 256 ∧ fX4_fewestLost cl p d numbers cells rows sizes (nI a) x y z = some (nI r, cl2, p2, d2) ∧ fX8_weakest mem row wide lost st dt x y z = some (nI r, row2, wide2, lost2, st2, dt2) := by
  have b9 := pow9 _ (hi_bit h.R)
  have l8 := h.len
  obtain ⟨row', e1, e2⟩ := h.lays row wide lost
  obtain ⟨cl2, p2, d2, x1⟩ := h.fewC_loop hx hy hz (2 ^ l.length - 1) FU 0 (2 ^ l.length - 1) cl p d (by omega) (FU_gt (by omega)) (by omega)
  obtain ⟨lost2, st2, dt2, y1⟩ := h.fewM_loop e2 hx hy hz (2 ^ l.length) FU (2 ^ l.length - 1) 0 st dt (by omega) (FU_gt (by omega)) (by omega)
  have hA := popA _ (hi_bit h.R)
  have h0 := WW_all nb l x.toInt y.toInt z.toInt
  have s := few_same hA h0
  have f := fewC_spec (W := WW nb l x.toInt y.toInt z.toInt) hA (2 ^ l.length - 1) 0 (2 ^ l.length - 1) (by omega) h0 (Or.inl rfl) (fun t ht => absurd ht (by omega))
  rw [show 2 ^ l.length - 1 + 1 = 2 ^ l.length by omega] at s
  have f2 := f.2.1
  refine ⟨fewC (WW nb l x.toInt y.toInt z.toInt) (2 ^ l.length - 1) 0 (2 ^ l.length - 1), cl2, p2, d2, row', nI l.length, lost2, st2, dt2, by omega, ?_, ?_⟩
  · rw [fX4_fewestLost, h.all, Option.bind_some, lit_nI0]
    exact x1
  · rw [s, ← y1, fX8_weakest, e1, ob3_some, all_nI _ (hi_bit h.R), show i32 (((2 ^ l.length : Nat) : Int) - 1) = nI (2 ^ l.length - 1) by rw [nI_i32]; congr 1; omega]
end
