/-! bounds of strains; loads; within limits -/
theorem totG_le0 {ce : Nat → Int} {n c g B : Nat} : ∀ (l : List Nat) (k : Nat), (∀ t ∈ l, -(B : Int) ≤ ce (9 * t + c) ∧ ce (9 * t + c) ≤ B) → -((B * l.length : Nat) : Int) ≤ totG ce n 0 c g k l ∧ totG ce n 0 c g k l ≤ (B * l.length : Nat)
  | [], k, _ => by rw [totG]; simp
  | t :: l, k, h => by
    have ih := totG_le0 (n := n) (g := g) l (k + 1) (fun x hx => h x (List.mem_cons_of_mem _ hx))
    have h0 := h t List.mem_cons_self
    rw [totG, List.length_cons, Nat.mul_add, Nat.mul_one, show wgt 0 (far n k) = 1 from rfl, Int.one_mul]
    generalize B * l.length = Q at *
    split <;> omega
theorem C3_bd {T : Nat → Int} {B : Nat} (h : ∀ c, c < 9 → -(B : Int) ≤ T c ∧ T c ≤ B) (i j : Nat) : -((2 * (B * B) : Nat) : Int) ≤ C3 T i j ∧ C3 T i j ≤ (2 * (B * B) : Nat) := by
  have p : ∀ c d, c < 9 → d < 9 → -((B * B : Nat) : Int) ≤ T c * T d ∧ T c * T d ≤ (B * B : Nat) := fun c d hc hd => mul_bd (h c hc) (h d hd)
  have p1 := p 4 8 (by omega) (by omega)
  have p2 := p 2 2 (by omega) (by omega)
  have p3 := p 1 8 (by omega) (by omega)
  have p4 := p 1 2 (by omega) (by omega)
  have p5 := p 4 2 (by omega) (by omega)
  have p6 := p 0 8 (by omega) (by omega)
  have p7 := p 0 2 (by omega) (by omega)
  have p8 := p 0 4 (by omega) (by omega)
  have p9 := p 1 1 (by omega) (by omega)
  generalize B * B = Q at *
  unfold C3
  repeat' split
  all_goals omega
theorem D3_bd {T : Nat → Int} {B : Nat} (h : ∀ c, c < 9 → -(B : Int) ≤ T c ∧ T c ≤ B) : -((3 * (B * (2 * (B * B))) : Nat) : Int) ≤ D3 T ∧ D3 T ≤ (3 * (B * (2 * (B * B))) : Nat) := by
  have p1 := mul_bd (h 0 (by omega)) (C3_bd h 0 0)
  have p2 := mul_bd (h 1 (by omega)) (C3_bd h 0 1)
  have p3 := mul_bd (h 2 (by omega)) (C3_bd h 0 2)
  generalize B * (2 * (B * B)) = Q at *
  unfold D3
  omega
theorem S3_bd {T : Nat → Int} {B : Nat} (h : ∀ c, c < 9 → -(B : Int) ≤ T c ∧ T c ≤ B) {x y z : Int} (hx : -999 ≤ x ∧ x ≤ 999) (hy : -999 ≤ y ∧ y ≤ 999) (hz : -999 ≤ z ∧ z ≤ 999) (i : Nat) : -((3 * (2 * (B * B) * 999) : Nat) : Int) ≤ S3 T x y z i ∧ S3 T x y z i ≤ (3 * (2 * (B * B) * 999) : Nat) := by
  have p1 := mul_bd (y := 999) (C3_bd h i 0) hx
  have p2 := mul_bd (y := 999) (C3_bd h i 1) hy
  have p3 := mul_bd (y := 999) (C3_bd h i 2) hz
  generalize 2 * (B * B) * 999 = Q at *
  unfold S3
  omega
def ld (x : Int32) : Prop := -999 ≤ x.toInt ∧ x.toInt ≤ 999
theorem cLoad (x : Int32) : fX7_isLoad x = if -999 ≤ x.toInt ∧ x.toInt ≤ 999 then 1 else 0 := by
  rw [fX7_isLoad]
  by_cases c : x.toInt < -999
  · rw [if_pos (Int32.lt_iff_toInt_lt.mpr c), if_neg (by omega)]
  · rw [if_neg (fun q => c (Int32.lt_iff_toInt_lt.mp q))]
    by_cases d : 999 < x.toInt
    · rw [if_pos (show (999 : Int32) < x from Int32.lt_iff_toInt_lt.mpr d), if_neg (by omega)]
    · rw [if_neg (show ¬ (999 : Int32) < x from fun q => d (Int32.lt_iff_toInt_lt.mp q)), if_pos (by omega)]
theorem mLoad (x : Int32) : fX8_in x.toInt64 (-999) 999 = if -999 ≤ x.toInt ∧ x.toInt ≤ 999 then 1 else 0 := by
  rw [in_spec]
  rfl
theorem loads_y {x y z : Int32} (hx : ld x) (hy : ld y) (hz : ld z) : fX7_areLoads 1 x y z = 1 ∧ fX8_areLoads x y z = 1 := by
  unfold ld at *
  simp only [fX7_areLoads, fX8_areLoads, cLoad, mLoad, if_pos hx, if_pos hy, if_pos hz, e10, if_false, and_self]
theorem loads_n {x y z : Int32} (h : ¬ (ld x ∧ ld y ∧ ld z)) : fX7_areLoads 1 x y z = 0 ∧ fX8_areLoads x y z = 0 := by
  unfold ld at h
  simp only [fX7_areLoads, fX8_areLoads, cLoad, mLoad, e10, if_false]
  by_cases hx : -999 ≤ x.toInt ∧ x.toInt ≤ 999
  · by_cases hy : -999 ≤ y.toInt ∧ y.toInt ≤ 999
    · have hz : ¬ (-999 ≤ z.toInt ∧ z.toInt ≤ 999) := fun q => h ⟨hx, hy, q⟩
      simp only [if_pos hx, if_pos hy, if_neg hz, e10, if_false, if_true, and_self]
    · simp only [if_pos hx, if_neg hy, e10, if_false, if_true, and_self]
  · simp only [if_neg hx, if_true, and_self]
theorem shp_2 (x y z : Bool) : (if (nI ((if x then 1 else 0) + (if y then 2 else 0) + (if z then 4 else 0)) &&& 2) = 0 then some (0 : Int32) else some 1) = some (b32 y) := by cases x <;> cases y <;> cases z <;> decide
section
variable {numbers cells rows sizes rooms mem : Nat → Int32} {kn a : Nat} {l : List Nat} {rm : Nat} {nb : Nat → Int}
theorem VW.isFlat (h : VW numbers cells rows sizes rooms mem kn a l rm nb) : fX7_isFlat cells rows sizes (nI a) = some (b32 (isFla (ceQ nb) l)) := by
  rw [fX7_isFlat, h.row, Option.bind_some, h.plies, Option.bind_some, h.shape h.R h.lt, Option.bind_some, shp]
  exact shp_2 _ _ _
theorem VW.sT_bd (h : VW numbers cells rows sizes rooms mem kn a l rm nb) (g w : Nat) : ∀ c, c < 9 → -((710400 : Nat) : Int) ≤ sT nb l g w c ∧ sT nb l g w c ≤ (710400 : Nat) := fun c hc => h.tg_bd h.R h.lt hc g w
theorem VW.sT_bd0 (h : VW numbers cells rows sizes rooms mem kn a l rm nb) (g : Nat) : ∀ c, c < 9 → -((4800 : Nat) : Int) ≤ sT nb l g 0 c ∧ sT nb l g 0 c ≤ (4800 : Nat) := fun c hc => by
  have q := totG_le0 (ce := ceQ nb) (n := l.length) (c := c) (g := g) (B := 600) l 0 (fun t ht => by rw [ceQ_at nb hc]; exact qe_bd h.nbs (h.lt t ht) c)
  have l8 := h.len
  have e : 600 * l.length ≤ 4800 := by omega
  unfold sT
  omega
theorem VW.yield (h : VW numbers cells rows sizes rooms mem kn a l rm nb) {w i : Nat} (hw : w ≤ 2) (hi : i < 3) {v x y z : Int32} (hv : 0 ≤ v.toInt ∧ v.toInt ≤ 1) (hx : ld x) (hy : ld y) (hz : ld z) (sc sp : Nat → Int64) (sd : Int64) (row : Nat → Int32) (wide lost : Int32) (st : Nat → Int64) (dt : Int64) : ∃ (r : Int64) (cl p : Nat → Int64) (d : Int64) (row' : Nat → Int32) (wide' lost' : Int32) (st' : Nat → Int64) (dt' : Int64), fX7_yielding cells rows sizes (nI a) sc sp sd (nI w) (nI i) v x y z = some (r, cl, p, d) ∧ fX8_strained mem row wide lost st dt (nI w) x y z (nI i) v = some (r, row', wide', lost', st', dt') := by
  obtain ⟨cl, a1, a2⟩ := h.take hw (show 0 < 256 by omega) sc sd
  obtain ⟨p, b1, b2⟩ := cSolve (sT_sy nb l 0 w) a2 sp x y z
  obtain ⟨row', c1, c2⟩ := h.lays row wide lost
  obtain ⟨st', d1, d2⟩ := h.strM c2 hw (show 0 < 256 by omega) x.toInt y.toInt z.toInt st dt
  have wm := h.warpM h.R h.lt c2 (g := 0) (by omega)
  rw [← lit_nI0] at a1 d1 wm
  have bd := D3_bd (h.sT_bd 0 w)
  have bs := S3_bd (h.sT_bd 0 w) hx hy hz i
  have hL := loads_y hx hy hz
  have hax : 0 ≤ (nI i).toInt ∧ (nI i).toInt ≤ 2 := by rw [nI_int (by omega)]; omega
  have y1 : fX8_strained mem row wide lost st dt (nI w) x y z (nI i) v = if D3 (sT nb l 0 w) = 0 then some (-9223372036854775807, row', nI l.length, 0, st', i64 (D3 (sT nb l 0 w))) else if isFla (ceQ nb) l = true then (fX8_part (i64 (2 * S3 (sT nb l 0 w) x.toInt y.toInt z.toInt i)) (i64 (D3 (sT nb l 0 w))) v).bind fun r25 => some (r25, row', nI l.length, 0, st', i64 (D3 (sT nb l 0 w))) else some (-9223372036854775807, row', nI l.length, 0, st', i64 (D3 (sT nb l 0 w))) := by
    rw [fX8_strained, h.is, Option.bind_some, if_neg (by decide), hL.2, if_neg (by decide), mIn2, if_pos hax, if_neg (by decide), mIn1, if_pos hv, if_neg (by decide), c1, ob3_some, to64, to64, to64, d1, ob2_some, wm, Option.bind_some, chkN hi (by omega), nI_clamp' (by omega), d2 i hi, show (2 : Int64) = i64 2 from rfl, ← i64_mul]
    by_cases e : D3 (sT nb l 0 w) = 0
    · rw [if_pos e, if_pos ((lg_cmp_eq _ _).mpr (by rw [e]; rfl))]
    · rw [if_neg e, if_neg (fun q => e (by have := (lg_cmp_eq _ _).mp q; exact (i64_eq (b := 0) ⟨by omega, by omega⟩ ⟨by omega, by omega⟩).mp this))]
      by_cases f : isFla (ceQ nb) l = true
      · rw [if_pos f, if_pos ((h.wz0 h.R h.lt).mpr f)]
      · rw [if_neg f, if_neg (fun q => f ((h.wz0 h.R h.lt).mp q))]
  have x1 : fX7_yielding cells rows sizes (nI a) sc sp sd (nI w) (nI i) v x y z = if isFla (ceQ nb) l = true then (if D3 (sT nb l 0 w) = 0 then some (-9223372036854775807, cl, sp, i64 (D3 (sT nb l 0 w))) else (fX4_inLowestTerms (i64 (2 * S3 (sT nb l 0 w) x.toInt y.toInt z.toInt i)) (i64 (D3 (sT nb l 0 w))) v).bind fun r15 => some (r15, cl, p, i64 (D3 (sT nb l 0 w)))) else some (-9223372036854775807, cl, sp, i64 (D3 (sT nb l 0 w))) := by
    have hp : fX4_part p (nI i) = some (i64 (2 * S3 (sT nb l 0 w) x.toInt y.toInt z.toInt i)) := by
      rw [fX4_part, lit_nI0, if_lt_n (by omega) (by omega), lit_nI2, if_le_y (by omega) (by omega), chkN hi (by omega), nI_clamp' (by omega), b2 i hi]
    rw [fX7_yielding, a1, ob2_some, h.isFlat, Option.bind_some, b1, Option.bind_some, hp, Option.bind_some]
    by_cases f : isFla (ceQ nb) l = true
    · rw [if_pos f, f, if_neg (by decide)]
      by_cases e : D3 (sT nb l 0 w) = 0
      · rw [if_pos e, if_pos ((lg_cmp_eq _ _).mpr (by rw [e]; rfl))]
      · rw [if_neg e, if_neg (fun q => e (by have := (lg_cmp_eq _ _).mp q; exact (i64_eq (b := 0) ⟨by omega, by omega⟩ ⟨by omega, by omega⟩).mp this))]
    · rw [if_neg f, Bool.eq_false_iff.mpr f, if_pos (show b32 false = 0 from rfl)]
  by_cases e : D3 (sT nb l 0 w) = 0
  · rw [if_pos e] at y1
    rw [if_pos e] at x1
    refine ⟨-9223372036854775807, cl, sp, i64 (D3 (sT nb l 0 w)), _, _, _, _, _, ?_, y1⟩
    rw [x1]
    split <;> rfl
  · rw [if_neg e] at y1
    rw [if_neg e] at x1
    by_cases f : isFla (ceQ nb) l = true
    · obtain ⟨q1, q2⟩ := low_both (v := v) (x := 2 * S3 (sT nb l 0 w) x.toInt y.toInt z.toInt i) (y := D3 (sT nb l 0 w)) ⟨by omega, by omega⟩ ⟨by omega, by omega⟩ e
      rw [if_pos f, q1, Option.bind_some] at x1
      rw [if_pos f, q2, Option.bind_some] at y1
      exact ⟨_, _, _, _, _, _, _, _, _, x1, y1⟩
    · rw [if_neg f] at x1 y1
      exact ⟨_, _, _, _, _, _, _, _, _, x1, y1⟩
end
