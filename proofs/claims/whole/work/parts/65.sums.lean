/-! Sums over a row: class and model. -/
theorem bitAt : ∀ g, g < 256 → ∀ k, k < 8 → (nI g >>> (nI k &&& 31)) &&& 1 = if g.testBit k then 1 else 0 := by decide +kernel
theorem pk_head {t : Nat} {l : List Nat} (h : ∀ x ∈ t :: l, x < 16) : pk (t :: l) &&& 15 = nI t := by
  have := pk_at h (k := 0) (by omega)
  have e : iushr (pk (t :: l)) (nI (4 * 0)) = pk (t :: l) := by
    apply bv_ext
    intro i hi
    rw [iushr_bv _ (by omega)]
    simp
  rw [e] at this
  exact this
theorem pk_tail {t : Nat} {l : List Nat} (h : ∀ x ∈ t :: l, x < 16) (hl : l.length < 8) : iushr (pk (t :: l)) 4 = pk l := by
  have hl2 : ∀ x ∈ l, x < 16 := fun x hx => h x (List.mem_cons_of_mem _ hx)
  rw [lit_nI4]
  apply bv_ext
  intro i hi
  rw [iushr_bv _ (by omega), BitVec.getLsbD_ushiftRight, pk_bit hl2 hi]
  by_cases c : 4 + i < 32
  · rw [pk_bit h c]
    have e1 : (4 + i) / 4 = i / 4 + 1 := by omega
    have e2 : (4 + i) % 4 = i % 4 := by omega
    rw [e1, e2]
    rfl
  · have e1 : l.getD (i / 4) 0 = 0 := by
      rw [List.getD_eq_getElem?_getD, List.getElem?_eq_none (by omega)]
      rfl
    rw [e1, Nat.zero_testBit]
    exact BitVec.getLsbD_of_ge _ _ (by omega)
/-- the sum, plies of a set lost -/
def totG (ce : Nat → Int) (n w c g : Nat) : Nat → List Nat → Int
  | _, [] => 0
  | k, t :: l => (if g.testBit k then 0 else wgt w (far n k) * ce (9 * t + c)) + totG ce n w c g (k + 1) l
theorem totG_0 (ce : Nat → Int) (n w c : Nat) : ∀ (l : List Nat) (k : Nat), totG ce n w c 0 k l = tot ce n w c k l
  | [], _ => rfl
  | t :: l, k => by
    unfold totG tot
    rw [totG_0 ce n w c l (k + 1), Nat.zero_testBit]
    simp
theorem cThick (f : Int) : fX3_thickOf (i32 f) = i32 (3 * f * f + 1) := by
  unfold fX3_thickOf
  rw [i32_add, i32_mul, i32_mul]
  rfl
theorem far_succ (n i : Nat) : i32 (far n i) + 2 = i32 (far n (i + 1)) := by
  rw [show (2 : Int32) = i32 2 from rfl, ← i32_add]
  congr 1
  unfold far
  omega
theorem total_loop {cells : Nat → Int32} {ce : Nat → Int} {len w c g : Nat} (hw : w ≤ 2) (hc : c < 9) (hg : g < 256) (hlen : len ≤ 8) : ∀ (r : List Nat) (i n : Nat) (acc : Int), i + r.length = len → r.length < n → (∀ t ∈ r, t < 12) → (∀ t ∈ r, cells (9 * t + c) = i32 (ce (9 * t + c))) → fX1_totalOf_28 n cells (nI len) (nI g) (nI w) (nI c) (i32 acc) (pk r) (i32 (far len i)) (nI i) = some (i32 (acc + totG ce len w c g i r)).toInt64 := by
  intro r
  induction r with
  | nil =>
    intro i n acc hi hn _ _
    obtain ⟨n, rfl, -⟩ := succ_of hn
    simp only [List.length_nil, Nat.add_zero] at hi
    rw [fX1_totalOf_28_s, if_pos ((nI_le' (by omega) (by omega)).mpr (by omega))]
    unfold totG
    rw [Int.add_zero]
  | cons t r ih =>
    intro i n acc hi hn ht hce
    obtain ⟨n, rfl, hn⟩ := succ_of hn
    simp only [List.length_cons] at hi hn
    have ht0 := ht t List.mem_cons_self
    have hr : ∀ x ∈ r, x < 12 := fun x hx => ht x (List.mem_cons_of_mem _ hx)
    have h16 : ∀ x ∈ t :: r, x < 16 := fun x hx => by have := ht x hx; omega
    have hcr : ∀ x ∈ r, cells (9 * x + c) = i32 (ce (9 * x + c)) := fun x hx => hce x (List.mem_cons_of_mem _ hx)
    have hix : (nI t * 9) + nI c = nI (9 * t + c) := by
      rw [lit_nI9, nI_mul, nI_add]
      congr 1
      omega
    have step : ∀ z : Int, fX1_totalOf_63 (fX1_totalOf_28 n) cells (nI len) (nI g) (nI w) (nI c) (i32 acc) (pk (t :: r)) (i32 (far len i)) (nI i) (i32 z) = some (i32 (acc + (wgt w (far len i) * z + totG ce len w c g (i + 1) r))).toInt64 := by
      intro z
      unfold fX1_totalOf_63 fX1_totalOf_100
      rw [pk_tail h16 (by omega), far_succ, nI_1]
      have fin : ∀ y : Int, fX1_totalOf_28 n cells (nI len) (nI g) (nI w) (nI c) (i32 acc + i32 y) (pk r) (i32 (far len (i + 1))) (nI (i + 1)) = some (i32 (acc + (y + totG ce len w c g (i + 1) r))).toInt64 := by
        intro y
        rw [← i32_add, ih (i + 1) n (acc + y) (by omega) (by omega) hr hcr, Int.add_assoc]
      rcases (show w = 0 ∨ w = 1 ∨ w = 2 by omega) with rfl | rfl | rfl
      · rw [if_neg (by decide), if_neg (by decide), fin z]
        unfold wgt
        simp
      · rw [if_neg (by decide), if_pos (show nI 1 = 1 from rfl), ← i32_mul, fin]
        rfl
      · rw [if_pos (show nI 2 = 2 from rfl), cThick, ← i32_mul, fin]
        rfl
    rw [fX1_totalOf_28_s, if_neg (fun q => absurd ((nI_le' (by omega) (by omega)).mp q) (by omega)), bitAt g hg i (by omega), pk_head h16, hix]
    unfold totG
    by_cases b : g.testBit i = true
    · rw [if_pos b, if_neg (by decide), if_pos b, show (0 : Int32) = i32 0 from rfl, step 0, Int.mul_zero]
    · rw [if_neg b, if_pos rfl, if_neg b, chkN (by omega) (by omega), nI_clamp' (by omega), hce t List.mem_cons_self, step]
/-- bounds -/
theorem wgt_le {w n i : Nat} (hn : n ≤ 8) (hi : i < n) : -148 ≤ wgt w (far n i) ∧ wgt w (far n i) ≤ 148 := by
  have hf : -7 ≤ far n i ∧ far n i ≤ 7 := by unfold far; omega
  obtain ⟨h1, h2⟩ := hf
  generalize far n i = f at h1 h2
  unfold wgt
  split
  · have h3 : 3 * f * f = 3 * (f * f) := Int.mul_assoc 3 f f
    have h4 : 0 ≤ f * f := by
      rcases Int.le_total 0 f with h | h
      · exact Int.mul_nonneg h h
      · exact Int.mul_nonneg_of_nonpos_of_nonpos h h
    have h5 : f * f ≤ 49 := by
      rcases (show f = -7 ∨ f = -6 ∨ f = -5 ∨ f = -4 ∨ f = -3 ∨ f = -2 ∨ f = -1 ∨ f = 0 ∨ f = 1 ∨ f = 2 ∨ f = 3 ∨ f = 4 ∨ f = 5 ∨ f = 6 ∨ f = 7 by omega) with h | h | h | h | h | h | h | h | h | h | h | h | h | h | h <;> subst h <;> decide
    omega
  · split <;> omega
theorem mul_bd {a b : Int} {x y : Nat} (ha : -(x : Int) ≤ a ∧ a ≤ x) (hb : -(y : Int) ≤ b ∧ b ≤ y) : -((x * y : Nat) : Int) ≤ a * b ∧ a * b ≤ (x * y : Nat) := by
  have h : (a * b).natAbs ≤ x * y := by
    rw [Int.natAbs_mul]
    exact Nat.mul_le_mul (by omega) (by omega)
  omega
theorem totG_le {ce : Nat → Int} {n w c g B : Nat} (hn : n ≤ 8) : ∀ (l : List Nat) (k : Nat), k + l.length ≤ n → (∀ t ∈ l, -(B : Int) ≤ ce (9 * t + c) ∧ ce (9 * t + c) ≤ B) → -((148 * B * l.length : Nat) : Int) ≤ totG ce n w c g k l ∧ totG ce n w c g k l ≤ (148 * B * l.length : Nat)
  | [], _, _, _ => by unfold totG; simp
  | t :: l, k, hk, h => by
    simp only [List.length_cons] at hk
    have ih := totG_le (ce := ce) (w := w) (c := c) (g := g) hn l (k + 1) (by omega) (fun x hx => h x (List.mem_cons_of_mem _ hx))
    have h1 := wgt_le (w := w) hn (show k < n by omega)
    have h2 := mul_bd (x := 148) (y := B) h1 (h t List.mem_cons_self)
    have e : 148 * B * (l.length + 1) = 148 * B + 148 * B * l.length := by rw [Nat.mul_add, Nat.mul_one, Nat.add_comm]
    unfold totG
    rw [List.length_cons, e]
    split <;> omega
/-- the class's sum -/
theorem cTotalOf {cells : Nat → Int32} {ce : Nat → Int} {l : List Nat} {w c g : Nat} (hR : R16 l) (hw : w ≤ 2) (hc : c < 9) (hg : g < 256) (hce : ∀ t ∈ l, cells (9 * t + c) = i32 (ce (9 * t + c))) (hB : ∀ t ∈ l, -600 ≤ ce (9 * t + c) ∧ ce (9 * t + c) ≤ 600) : fX1_totalOf cells (pk l) (nI l.length) (nI g) (nI w) (nI c) = some (i64 (totG ce l.length w c g 0 l)) := by
  unfold fX1_totalOf
  rw [if_neg (nI_nn0 (by omega)), if_pos (show nI c ≤ 8 from (nI_le' (b := 8) (by omega) (by omega)).mpr (by omega))]
  have h1 : (1 : Int32) - nI l.length = i32 (far l.length 0) := by
    rw [show (1 : Int32) = i32 1 from rfl, nI_i32, ← i32_sub]
    rfl
  have hb := totG_le (ce := ce) (n := l.length) (w := w) (c := c) (g := g) (B := 600) hR.2 l 0 (by omega) hB
  have h8 := hR.2
  have hb2 : 148 * 600 * l.length ≤ 148 * 600 * 8 := Nat.mul_le_mul_left _ h8
  rw [h1, show (0 : Int32) = i32 0 from rfl]
  have := total_loop (cells := cells) (ce := ce) (len := l.length) hw hc hg hR.2 l 0 FU 0 (by omega) (FU_gt (by omega)) hR.1 hce
  rw [show i32 0 = nI 0 from rfl] at this ⊢
  rw [this, Int.zero_add, i32_l ⟨by omega, by omega⟩]
/-- the model's entry of a type -/
def MK (mem : Nat → Int32) (nb : Nat → Int) (kn : Nat) : Prop := kn ≤ 3 ∧ ∀ q, q < 5 * kn → mem (4 + q) = i32 (nb q)
theorem mk_at {mem : Nat → Int32} {nb : Nat → Int} {kn k q : Nat} (h : MK mem nb kn) (hk : k < kn) (hq : q < 5) : mem (4 + (5 * k + q)) = i32 (nb (5 * k + q)) := h.2 _ (by omega)
theorem mEntry {mem : Nat → Int32} {nb : Nat → Int} {kn t i j : Nat} (h : MK mem nb kn) (ht : t < 4 * kn) (hi : i < 3) (hj : j < 3) (hB : ∀ q, q < 4 → -100 ≤ nb (5 * (t / 4) + q) ∧ nb (5 * (t / 4) + q) ≤ 100) : fX8_entry mem (nI t) (nI i) (nI j) = some (i64 (qe nb t (3 * i + j))) := by
  have h3 := h.1
  have hk : t / 4 < kn := by omega
  have er : irem (nI t) 4 = nI (t % 4) := irem_nI (b := 4) (by omega) (by omega) (by omega)
  have ed : (nI t) / 4 = nI (t / 4) := idiv_nI (b := 4) (by omega) (by omega)
  have eb : (4 : Int32) + (5 * nI (t / 4)) = nI (4 + 5 * (t / 4)) := by
    rw [lit_nI4, lit_nI5, nI_mul, nI_add]
  have g0 : mem (4 + 5 * (t / 4)) = i32 (nb (5 * (t / 4))) := mk_at h hk (q := 0) (by omega)
  have g1 : mem (4 + 5 * (t / 4) + 1) = i32 (nb (5 * (t / 4) + 1)) := by rw [Nat.add_assoc]; exact mk_at h hk (by omega)
  have g2 : mem (4 + 5 * (t / 4) + 2) = i32 (nb (5 * (t / 4) + 2)) := by rw [Nat.add_assoc]; exact mk_at h hk (by omega)
  have g3 : mem (4 + 5 * (t / 4) + 3) = i32 (nb (5 * (t / 4) + 3)) := by rw [Nat.add_assoc]; exact mk_at h hk (by omega)
  have n1 : nI (4 + 5 * (t / 4)) + 1 = nI (4 + 5 * (t / 4) + 1) := nI_1 _
  have n2 : nI (4 + 5 * (t / 4)) + 2 = nI (4 + 5 * (t / 4) + 2) := nI_add _ 2
  have n3 : nI (4 + 5 * (t / 4)) + 3 = nI (4 + 5 * (t / 4) + 3) := nI_add _ 3
  have c0 : ∀ (β : Type) (x : Option β), chk 27 (nI (4 + 5 * (t / 4))) x = x := fun β x => chkN (by omega) (by omega)
  have c1 : ∀ (β : Type) (x : Option β), chk 27 (nI (4 + 5 * (t / 4) + 1)) x = x := fun β x => chkN (by omega) (by omega)
  have c2 : ∀ (β : Type) (x : Option β), chk 27 (nI (4 + 5 * (t / 4) + 2)) x = x := fun β x => chkN (by omega) (by omega)
  have c3 : ∀ (β : Type) (x : Option β), chk 27 (nI (4 + 5 * (t / 4) + 3)) x = x := fun β x => chkN (by omega) (by omega)
  have q0 : (nI (4 + 5 * (t / 4))).toNatClampNeg = 4 + 5 * (t / 4) := nI_clamp' (by omega)
  have q1 : (nI (4 + 5 * (t / 4) + 1)).toNatClampNeg = 4 + 5 * (t / 4) + 1 := nI_clamp' (by omega)
  have q2 : (nI (4 + 5 * (t / 4) + 2)).toNatClampNeg = 4 + 5 * (t / 4) + 2 := nI_clamp' (by omega)
  have q3 : (nI (4 + 5 * (t / 4) + 3)).toNatClampNeg = 4 + 5 * (t / 4) + 3 := nI_clamp' (by omega)
  have b0 := hB 0 (by omega)
  have b1 := hB 1 (by omega)
  have b2 := hB 2 (by omega)
  have b3 := hB 3 (by omega)
  rw [Nat.add_zero] at b0
  unfold fX8_entry fX8_entry_34 fX8_entry_47 fX8_entry_52 fX8_entry_98 fX8_entry_108 fX8_entry_201
  rw [er, ed, eb]
  unfold qe
  simp only [n1, n2, n3, c0, c1, c2, c3, q0, q1, q2, q3, g0, g1, g2, g3]
  generalize nb (5 * (t / 4)) = x0 at b0
  generalize nb (5 * (t / 4) + 1) = x1 at b1
  generalize nb (5 * (t / 4) + 2) = x2 at b2
  generalize nb (5 * (t / 4) + 3) = x3 at b3
  have ha : t % 4 < 4 := Nat.mod_lt _ (by omega)
  generalize t % 4 = a at ha
  have l2 : (2 : Int32) = i32 2 := rfl
  have lm2 : (-2 : Int32) = i32 (-2) := rfl
  have l1 : (1 : Int32) = i32 1 := rfl
  have lm1 : (-1 : Int32) = i32 (-1) := rfl
  have l0 : (0 : Int32) = i32 0 := rfl
  rcases (show i = 0 ∨ i = 1 ∨ i = 2 by omega) with rfl | rfl | rfl <;> rcases (show j = 0 ∨ j = 1 ∨ j = 2 by omega) with rfl | rfl | rfl <;> rcases (show a = 0 ∨ a = 1 ∨ a = 2 ∨ a = 3 by omega) with rfl | rfl | rfl | rfl <;> simp only [show (nI 0 = 0) = True from eq_true rfl, show (nI 1 = 1) = True from eq_true rfl, show (nI 2 = 2) = True from eq_true rfl, show (nI 3 = 3) = True from eq_true rfl, show (nI 0 = 2) = False from eq_false (by decide), show (nI 1 = 2) = False from eq_false (by decide), show (nI 0 = 1) = False from eq_false (by decide), show (nI 1 = 0) = False from eq_false (by decide), show (nI 2 = 0) = False from eq_false (by decide), show (nI 2 = 1) = False from eq_false (by decide), show (nI 0 = 3) = False from eq_false (by decide), show (nI 1 = 3) = False from eq_false (by decide), show (nI 2 = 3) = False from eq_false (by decide), show (nI 3 = 0) = False from eq_false (by decide), show (nI 3 = 1) = False from eq_false (by decide), show (nI 3 = 2) = False from eq_false (by decide), show (nI 0 = nI 1) = False from eq_false (by decide), show (nI 1 = nI 0) = False from eq_false (by decide), if_true, if_false] <;> first | (refine congrArg some ?_; simp only [l2, lm2, l1, lm1, l0, ← i32_mul, ← i32_add, ← i32_sub, ← i32_neg]; rw [i32_l (by constructor <;> omega)]; refine congrArg i64 ?_; simp [sTwo, sThree, sSkew]; done) | (refine congrArg some ?_; simp only [l2, lm2, l1, lm1, l0, ← i32_mul, ← i32_add, ← i32_sub, ← i32_neg]; rw [i32_l (by constructor <;> omega)]; refine congrArg i64 ?_; simp [sTwo, sThree, sSkew]; omega) | (refine congrArg some ?_; rw [i32_l (by constructor <;> omega)]; refine congrArg i64 ?_; simp [sTwo, sThree, sSkew]; done) | (refine congrArg some ?_; simp only [l2, lm2, l1, lm1, ← i32_mul, ← i32_add, ← i32_sub, ← i32_neg]; rw [i32_l (by constructor <;> omega)]; refine congrArg i64 ?_; simp [sTwo, sThree, sSkew]; done) | (refine congrArg some ?_; simp only [l2, lm2, l1, lm1, ← i32_mul, ← i32_add, ← i32_sub, ← i32_neg]; rw [i32_l (by constructor <;> omega)]; refine congrArg i64 ?_; simp [sTwo, sThree, sSkew]; omega) | (simp [sTwo, sThree, sSkew]; rfl)
