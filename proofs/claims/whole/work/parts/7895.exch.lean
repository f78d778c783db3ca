/-! how few exchanges lead there -/
theorem idx_ne {a b : Nat} {l : List Nat} (h : ¬ b = a) : (b :: l).idxOf a = l.idxOf a + 1 := by
  rw [List.idxOf_cons, beq_eq_false_iff_ne.mpr h]
  rfl
def EX : List Nat → List Nat → Nat
  | _, [] => 0
  | r, t :: w => r.idxOf t + EX (r.erase t) w
theorem EX_head (t : Nat) : ∀ (b a : List Nat), EX (t :: a) b = (if t ∈ b then b.idxOf t else b.length) + EX a (b.erase t)
  | [], a => by simp [EX]
  | s :: b, a => by
    rw [EX]
    by_cases e : s = t
    · subst e
      rw [List.idxOf_cons_self, List.erase_cons_head, if_pos List.mem_cons_self, List.idxOf_cons_self, List.erase_cons_head]
    · have ne : (t == s) = false := beq_eq_false_iff_ne.mpr (fun q => e q.symm)
      have ne2 : (s == t) = false := beq_eq_false_iff_ne.mpr e
      rw [idx_ne (fun q => e q.symm), List.erase_cons_tail (by rw [ne]; decide), EX_head t b (a.erase s), idx_ne e, List.erase_cons_tail (by rw [ne2]; decide), EX, List.length_cons]
      by_cases m : t ∈ b
      · rw [if_pos m, if_pos (List.mem_cons_of_mem _ m)]; omega
      · rw [if_neg m, if_neg (fun q => by rcases List.mem_cons.mp q with z | z; exact e z.symm; exact m z)]; omega
theorem EX_nil : ∀ (b : List Nat), EX [] b = 0
  | [] => rfl
  | s :: b => by
    rw [EX]
    show 0 + EX [] b = 0
    rw [EX_nil b]
theorem EX_comm : ∀ (a b : List Nat), a.Perm b → EX a b = EX b a
  | [], b, _ => by rw [EX_nil, EX]
  | t :: a, b, h => by
    have m : t ∈ b := h.mem_iff.mp List.mem_cons_self
    have p : a.Perm (b.erase t) := by
      have := h.erase t
      rw [List.erase_cons_head] at this
      exact this
    rw [EX_head, if_pos m, EX, EX_comm a (b.erase t) p]
/-- the lowest place left of a type -/
theorem low_is (t : Nat) : ∀ (l : List Nat) (g i f : Nat), i ≤ f → f < i + l.length → g.testBit f = false → l.getD (f - i) 0 = t → (∀ j, i ≤ j → j < f → g.testBit j = true ∨ ¬ l.getD (j - i) 0 = t) → (unt g i l).idxOf t + popL g i (f - i) = f - i ∧ unt (g ||| 2 ^ f) i l = (unt g i l).erase t
  | [], g, i, f, h1, h2, _, _, _ => by simp at h2; omega
  | s :: l, g, i, f, h1, h2, h3, h4, h5 => by
    unfold unt
    rw [or_bit]
    by_cases e : f = i
    · subst e
      rw [Nat.sub_self] at h4
      have h4' : s = t := h4
      rw [h3, if_neg (by decide), Bool.false_or, decide_eq_true rfl, if_pos rfl, h4', List.idxOf_cons_self, List.erase_cons_head, Nat.sub_self, popL]
      refine ⟨rfl, ?_⟩
      exact unt_congr l (f + 1) (fun j hj => by rw [or_bit, decide_eq_false (by omega), Bool.or_false])
    · rw [decide_eq_false e, Bool.or_false]
      have e2 : ∀ j, i + 1 ≤ j → (s :: l).getD (j - i) 0 = l.getD (j - (i + 1)) 0 := fun j hj => by rw [show j - i = (j - (i + 1)) + 1 by omega]; rfl
      obtain ⟨q1, q2⟩ := low_is t l g (i + 1) f (by omega) (by simp at h2; omega) h3 (by rw [← e2 f (by omega)]; exact h4) (fun j a b => by rw [← e2 j a]; exact h5 j (by omega) b)
      rw [show f - i = (f - (i + 1)) + 1 by omega, popL]
      by_cases c : g.testBit i = true
      · rw [if_pos c, if_pos c, if_pos c]
        exact ⟨by omega, q2⟩
      · have ns : ¬ s = t := by
          rcases h5 i (Nat.le_refl _) (by omega) with z | z
          · exact absurd z c
          · rw [Nat.sub_self] at z; exact z
        rw [if_neg c, if_neg c, if_neg c, idx_ne ns, List.erase_cons_tail (by rw [beq_eq_false_iff_ne.mpr ns]; decide), q2]
        exact ⟨by omega, rfl⟩
theorem low_ex (t : Nat) : ∀ (l : List Nat) (g i : Nat), t ∈ unt g i l → ∃ f, i ≤ f ∧ f < i + l.length ∧ g.testBit f = false ∧ l.getD (f - i) 0 = t ∧ ∀ j, i ≤ j → j < f → g.testBit j = true ∨ ¬ l.getD (j - i) 0 = t
  | [], g, i, h => by simp [unt] at h
  | s :: l, g, i, h => by
    unfold unt at h
    by_cases c : g.testBit i = false ∧ s = t
    · exact ⟨i, Nat.le_refl _, by simp, c.1, by rw [Nat.sub_self]; exact c.2, fun j a b => by omega⟩
    · have h' : t ∈ unt g (i + 1) l := by
        by_cases d : g.testBit i = true
        · rw [if_pos d] at h; exact h
        · rw [if_neg d] at h
          rcases List.mem_cons.mp h with z | z
          · exact absurd ⟨Bool.eq_false_iff.mpr d, z.symm⟩ c
          · exact z
      obtain ⟨f, a1, a2, a3, a4, a5⟩ := low_ex t l g (i + 1) h'
      have e2 : ∀ j, i + 1 ≤ j → (s :: l).getD (j - i) 0 = l.getD (j - (i + 1)) 0 := fun j hj => by rw [show j - i = (j - (i + 1)) + 1 by omega]; rfl
      refine ⟨f, by omega, by simp; omega, a3, by rw [e2 f a1]; exact a4, fun j b1 b2 => ?_⟩
      by_cases e : j = i
      · rw [e, Nat.sub_self]
        by_cases d : g.testBit i = true
        · exact Or.inl d
        · right
          intro q
          exact c ⟨Bool.eq_false_iff.mpr d, q⟩
      · rw [e2 j (by omega)]
        exact a5 j (by omega) b2
theorem popL_and : ∀ g, g < 256 → ∀ f, f < 8 → pop (g &&& (2 ^ f - 1)) = popL g 0 f := by decide +kernel
theorem bit_low : ∀ f, f < 8 → ((1 : Int32) <<< (nI f &&& 31)) - 1 = nI (2 ^ f - 1) := fun f hf => all_nI f (by omega)
theorem and_le255 {g k : Nat} (hg : g < 256) : g &&& k < 256 := Nat.lt_of_le_of_lt Nat.and_le_left hg
theorem cLow_loop {l : List Nat} (hR : R16 l) {g t f : Nat} (hg : g < 256) (ht : t < 12) (h2 : f < l.length) (h3 : g.testBit f = false) (h4 : l.getD f 0 = t) (h5 : ∀ j, j < f → g.testBit j = true ∨ ¬ l.getD j 0 = t) : ∀ (k n i : Nat), i + k = f → k < n → fX3_lowestLeft_3 n (pk l) (nI l.length) (nI g) (nI t) (nI i) = some (nI f) := by
  have l8 := hR.2
  intro k
  induction k with
  | zero =>
    intro n i hi hn
    obtain ⟨n, rfl, -⟩ := succ_of hn
    have e : i = f := by omega
    subst e
    rw [fX3_lowestLeft_3, if_le_n (by omega) (by omega), bitAt g hg i (by omega), h3, if_pos (show (if false = true then (1 : Int32) else 0) = 0 from rfl), typeAt_pk hR (by omega), h4, if_pos rfl]
  | succ k ih =>
    intro n i hi hn
    obtain ⟨n, rfl, hn'⟩ := succ_of hn
    have g12 := getD_lt12 hR i
    rw [fX3_lowestLeft_3, if_le_n (by omega) (by omega), bitAt g hg i (by omega), typeAt_pk hR (by omega)]
    simp only [fX3_lowestLeft_31, nI_s]
    have := ih n (i + 1) (by omega) (by omega)
    cases c : g.testBit i with
    | true => rw [if_pos rfl, if_neg (by decide)]; exact this
    | false =>
      rcases h5 i (by omega) with z | z
      · rw [c] at z; exact absurd z (by decide)
      · rw [if_pos (show (if false = true then (1 : Int32) else 0) = 0 from rfl), if_eq_n z (by omega) (by omega)]
        exact this
theorem cEx_loop {l x : List Nat} (hR : R16 l) (hX : R16 x) (hl : x.length = l.length) : ∀ (k n i g acc : Nat), i + k = l.length → k < n → g < 256 → (unt g 0 l).Perm (x.drop i) → fX3_neighbourExchanges_8 n (pk l) (pk x) (nI l.length) (nI acc) (nI g) (nI i) = some (nI (acc + EX (unt g 0 l) (x.drop i))) := by
  have l8 := hR.2
  intro k
  induction k with
  | zero =>
    intro n i g acc hi hn hg hp
    obtain ⟨n, rfl, -⟩ := succ_of hn
    rw [fX3_neighbourExchanges_8, if_le_y (by omega) (by omega), List.drop_eq_nil_of_le (by omega), EX]
    rfl
  | succ k ih =>
    intro n i g acc hi hn hg hp
    obtain ⟨n, rfl, hn'⟩ := succ_of hn
    have t12 := getD_lt12 hX i
    rw [dropD (show i < x.length by omega)] at hp
    have tm : x.getD i 0 ∈ unt g 0 l := hp.mem_iff.mpr List.mem_cons_self
    obtain ⟨f, a1, a2, a3, a4, a5⟩ := low_ex _ l g 0 tm
    obtain ⟨q1, q2⟩ := low_is _ l g 0 f a1 a2 a3 a4 a5
    rw [Nat.sub_zero] at a4 q1
    have lw := cLow_loop hR hg t12 (by omega) a3 a4 (fun j hj => by have := a5 j (by omega) hj; rw [Nat.sub_zero] at this; exact this) f FU 0 (by omega) (FU_gt (by omega))
    have lw' : fX3_lowestLeft (pk l) (nI l.length) (nI g) (nI (x.getD i 0)) = some (nI f) := lw
    have p2 : (unt (g ||| 2 ^ f) 0 l).Perm (x.drop (i + 1)) := by
      rw [q2]
      have := hp.erase (x.getD i 0)
      rw [List.erase_cons_head] at this
      exact this
    have s1 : nI acc + (nI f - nI (popL g 0 f)) = nI (acc + (unt g 0 l).idxOf (x.getD i 0)) := by
      rw [nI_sub (by omega), nI_add]
      congr 2
      omega
    rw [fX3_neighbourExchanges_8, if_le_n (by omega) (by omega), typeAt_pk hX (by omega), lw', Option.bind_some, bit_low f (by omega), and_nI, bc _ (and_le255 hg), popL_and g hg f (by omega), bit1 f (by omega), or_nI, s1, nI_s, ih n (i + 1) (g ||| 2 ^ f) _ (by omega) (by omega) (or_lt256 hg (by omega)) p2, dropD (show i < x.length by omega), EX, q2, Nat.add_assoc]
theorem cEx {l x : List Nat} (hR : R16 l) (hX : R16 x) (hl : x.length = l.length) (hp : l.Perm x) : fX3_neighbourExchanges (pk l) (pk x) (nI l.length) = some (nI (EX l x)) := by
  have := cEx_loop hR hX hl l.length FU 0 0 0 (by omega) (FU_gt (by have := hR.2; omega)) (by omega) (by rw [unt_0]; exact hp)
  rw [unt_0, Nat.zero_add] at this
  rw [fX3_neighbourExchanges]
  exact this
/-! the model's count -/
theorem popL_add (g : Nat) : ∀ (a b i : Nat), popL g i (a + b) = popL g i a + popL g (i + a) b
  | 0, b, i => by rw [Nat.zero_add, popL, Nat.zero_add]; rfl
  | a + 1, b, i => by rw [show a + 1 + b = (a + b) + 1 by omega, popL, popL, popL_add g a b (i + 1), show i + 1 + a = i + (a + 1) by omega]; omega
theorem popL_above {g k : Nat} : ∀ (n i : Nat), k < i → popL (g ||| 2 ^ k) i n = popL g i n
  | 0, i, _ => rfl
  | n + 1, i, h => by rw [popL, popL, or_bit, decide_eq_false (by omega), Bool.or_false, popL_above n (i + 1) (by omega)]
def posL (g : Nat) : Nat → Nat → Nat
  | _, 0 => 0
  | i, n + 1 => (if g.testBit i then i else 0) + posL g (i + 1) n
theorem pos_or {g k : Nat} (hg : g.testBit k = false) : ∀ (n i : Nat), i ≤ k → k < i + n → posL (g ||| 2 ^ k) i n = posL g i n + k ∧ popL (g ||| 2 ^ k) i n = popL g i n + 1
  | 0, i, h1, h2 => by omega
  | n + 1, i, h1, h2 => by
    rw [posL, posL, popL, popL, or_bit]
    by_cases e : k = i
    · subst e
      have z : ∀ (n j : Nat), k < j → posL (g ||| 2 ^ k) j n = posL g j n := by
        intro n
        induction n with
        | zero => intro j _; rfl
        | succ n ih => intro j hj; rw [posL, posL, or_bit, decide_eq_false (by omega), Bool.or_false, ih (j + 1) (by omega)]
      rw [hg, Bool.false_or, decide_eq_true rfl, if_pos rfl, if_pos rfl, if_neg (by decide), if_neg (by decide), z n (k + 1) (by omega), popL_above n (k + 1) (by omega)]
      omega
    · obtain ⟨q1, q2⟩ := pos_or hg n (i + 1) (by omega) (by omega)
      rw [decide_eq_false e, Bool.or_false, q1, q2]
      omega
def tri : Nat → Nat
  | 0 => 0
  | n + 1 => tri n + n
def smF (i : Nat) : Nat → Nat
  | 0 => 0
  | n + 1 => i + smF (i + 1) n
theorem smF_snoc : ∀ (n i : Nat), smF i (n + 1) = smF i n + (i + n)
  | 0, i => by rw [smF, smF, smF]; omega
  | n + 1, i => by
    rw [smF, smF_snoc n (i + 1)]
    show _ = (i + smF (i + 1) n) + _
    omega
theorem smF_tri : ∀ n, smF 0 n = tri n
  | 0 => rfl
  | n + 1 => by rw [smF_snoc, smF_tri n, tri]; omega
theorem pos_full (g : Nat) : ∀ (n i : Nat), popL g i n = n → posL g i n = smF i n
  | 0, i, _ => rfl
  | n + 1, i, h => by
    have := popL_le g n (i + 1)
    rw [popL] at h
    rw [posL, smF]
    by_cases c : g.testBit i = true
    · rw [if_pos c] at h ⊢
      rw [pos_full g n (i + 1) (by omega)]
    · rw [if_neg c] at h
      omega
section
variable {mem row left fo : Nat → Int32} {wide lost k0 k1 k2 k3 k4 : Int32} {k5 : Int64} {se : Nat → Int64} {un : Int32}
theorem mCnt_loop {l : List Nat} (l8 : l.length ≤ 8) (m2 : mem 2 = nI l.length) {g : Nat} (hg : g < 256) {p : Nat} (k36 : (Nat → Int32) → (Nat → Int32) → Int32 → Int32 → (Nat → Int32) → Int32 → Int32 → Int32 → Int32 → Int32 → Int64 → (Nat → Int32) → (Nat → Int64) → Int32 → Int32 → Int32 → Int32 → Option (Int32 × (Nat → Int32) × Int32 × Int32 × (Nat → Int32) × Int32 × Int32 × Int32 × Int32 × Int32 × Int64 × (Nat → Int32) × (Nat → Int64) × Int32)) : ∀ (k n q acc : Nat), q + k = l.length → k < n → fX8_exchanges_101 k36 n mem row wide lost left k0 k1 k2 k3 k4 k5 fo se un (nI acc) (nI g) (nI p) (nI q) = k36 mem row wide lost left k0 k1 k2 k3 k4 k5 fo se un (nI (acc + popL g q k)) (nI g) (nI (p + 1)) := by
  intro k
  induction k with
  | zero =>
    intro n q acc hq hn
    obtain ⟨n, rfl, -⟩ := succ_of hn
    rw [fX8_exchanges_101, m2, if_le_y (by omega) (by omega), fX8_exchanges_136, nI_s]
    rfl
  | succ k ih =>
    intro n q acc hq hn
    obtain ⟨n, rfl, hn'⟩ := succ_of hn
    rw [fX8_exchanges_101, m2, if_le_n (by omega) (by omega), mHas hg (by omega), popL]
    simp only [fX8_exchanges_128, nI_s]
    cases c : g.testBit q with
    | true =>
      rw [if_pos rfl, if_neg (by decide), ih n (q + 1) _ (by omega) (by omega), if_pos rfl, Nat.add_assoc]
    | false =>
      rw [if_pos (show (if false = true then (1 : Int32) else 0) = 0 from rfl), show (0 : Int32) = nI 0 from rfl, nI_add, ih n (q + 1) _ (by omega) (by omega), if_neg (by decide), Nat.add_zero, Nat.zero_add]
theorem mLow_loop {l x : List Nat} (hR : R16 l) (hX : R16 x) (hl : x.length = l.length) (mt : ∀ p, p < l.length → mem (19 + p) = nI (l.getD p 0)) (hf : ∀ p, p < l.length → fo p = nI (x.getD p 0)) {g p f : Nat} (hg : g < 256) (hp : p < l.length) (h2 : f < x.length) (h3 : g.testBit f = false) (h4 : x.getD f 0 = l.getD p 0) (h5 : ∀ j, j < f → g.testBit j = true ∨ ¬ x.getD j 0 = l.getD p 0) {acc : Int32} (k36 : (Nat → Int32) → (Nat → Int32) → Int32 → Int32 → (Nat → Int32) → Int32 → Int32 → Int32 → Int32 → Int32 → Int64 → (Nat → Int32) → (Nat → Int64) → Int32 → Int32 → Int32 → Int32 → Option (Int32 × (Nat → Int32) × Int32 × Int32 × (Nat → Int32) × Int32 × Int32 × Int32 × Int32 × Int32 × Int64 × (Nat → Int32) × (Nat → Int64) × Int32)) : ∀ (k n i : Nat), i + k = f → k < n → fX8_exchanges_50 k36 n mem row wide lost left k0 k1 k2 k3 k4 k5 fo se un acc (nI g) (nI p) (nI i) = fX8_exchanges_86 k36 mem row wide lost left k0 k1 k2 k3 k4 k5 fo se un acc (nI g) (nI p) (nI f) := by
  have l8 := hR.2
  intro k
  induction k with
  | zero =>
    intro n i hi hn
    obtain ⟨n, rfl, -⟩ := succ_of hn
    have e : i = f := by omega
    subst e
    rw [fX8_exchanges_50, mHas hg (by omega), h3, if_pos (show (if false = true then (1 : Int32) else 0) = 0 from rfl), chkN (by omega) (by omega), chk19 (by omega), nI_clamp' (by omega), clamp19 (by omega), hf i (by omega), mt p hp, h4, if_pos rfl]
  | succ k ih =>
    intro n i hi hn
    obtain ⟨n, rfl, hn'⟩ := succ_of hn
    have g1 := getD_lt12 hX i
    have g2 := getD_lt12 hR p
    have := ih n (i + 1) (by omega) (by omega)
    rw [fX8_exchanges_50, mHas hg (by omega), chkN (by omega) (by omega), chk19 (by omega), nI_clamp' (by omega), clamp19 (by omega), hf i (by omega), mt p hp]
    simp only [fX8_exchanges_80, nI_s]
    cases c : g.testBit i with
    | true => rw [if_pos rfl, if_neg (by decide)]; exact this
    | false =>
      rcases h5 i (by omega) with z | z
      · rw [c] at z; exact absurd z (by decide)
      · rw [if_pos (show (if false = true then (1 : Int32) else 0) = 0 from rfl), if_eq_n z (by omega) (by omega)]
        exact this
theorem mEx_loop {l x : List Nat} (hR : R16 l) (hX : R16 x) (hl : x.length = l.length) (m2 : mem 2 = nI l.length) (mt : ∀ p, p < l.length → mem (19 + p) = nI (l.getD p 0)) (hf : ∀ p, p < l.length → fo p = nI (x.getD p 0)) (E : Nat) : ∀ (k n p g acc : Nat), p + k = l.length → k < n → g < 256 → (unt g 0 x).Perm (l.drop p) → popL g 0 l.length = p → acc + posL g 0 l.length + EX (unt g 0 x) (l.drop p) = tri p + E → fX8_exchanges_36 n mem row wide lost left k0 k1 k2 k3 k4 k5 fo se un (nI acc) (nI g) (nI p) = some (nI E, row, wide, lost, left, k0, k1, k2, k3, k4, k5, fo, se, un) := by
  have l8 := hR.2
  intro k
  induction k with
  | zero =>
    intro n p g acc hp hn hg hq hc hs
    obtain ⟨n, rfl, -⟩ := succ_of hn
    have e : p = l.length := by omega
    rw [List.drop_eq_nil_of_le (by omega), EX, pos_full g l.length 0 (by omega), smF_tri, e] at hs
    rw [fX8_exchanges_36, m2, if_le_y (by omega) (by omega), show acc = E by omega]
  | succ k ih =>
    intro n p g acc hp hn hg hq hc hs
    obtain ⟨n, rfl, hn'⟩ := succ_of hn
    have pl : p < l.length := by omega
    rw [dropD pl] at hq hs
    have tm : l.getD p 0 ∈ unt g 0 x := hq.mem_iff.mpr List.mem_cons_self
    obtain ⟨f, a1, a2, a3, a4, a5⟩ := low_ex _ x g 0 tm
    obtain ⟨q1, q2⟩ := low_is _ x g 0 f a1 a2 a3 a4 a5
    rw [Nat.sub_zero] at a4 q1
    have lw := mLow_loop (row := row) (left := left) (wide := wide) (lost := lost) (k0 := k0) (k1 := k1) (k2 := k2) (k3 := k3) (k4 := k4) (k5 := k5) (se := se) (un := un) hR hX hl mt hf hg pl (by omega) a3 a4 (fun j hj => by have := a5 j (by omega) hj; rw [Nat.sub_zero] at this; exact this) (acc := nI acc) (fX8_exchanges_36 n) f FU 0 (by omega) (FU_gt (by omega))
    obtain ⟨z1, z2⟩ := pos_or a3 l.length 0 (by omega) (by omega)
    have cn := mCnt_loop (mem := mem) (row := row) (left := left) (fo := fo) (wide := wide) (lost := lost) (k0 := k0) (k1 := k1) (k2 := k2) (k3 := k3) (k4 := k4) (k5 := k5) (se := se) (un := un) l8 m2 (or_lt256 hg (show f < 8 by omega)) (p := p) (fX8_exchanges_36 n) (l.length - (f + 1)) FU (f + 1) acc (by omega) (FU_gt (by omega))
    have sp := popL_add g f (l.length - f) 0
    rw [show f + (l.length - f) = l.length by omega, show l.length - f = (l.length - (f + 1)) + 1 by omega, Nat.zero_add, popL, a3, if_neg (by decide), Nat.zero_add] at sp
    rw [popL_above _ (f + 1) (by omega)] at cn
    have p2 : (unt (g ||| 2 ^ f) 0 x).Perm (l.drop (p + 1)) := by
      rw [q2]
      have := hq.erase (l.getD p 0)
      rw [List.erase_cons_head] at this
      exact this
    rw [EX, ← q2] at hs
    rw [fX8_exchanges_36, m2, if_le_n (by omega) (by omega), show fX8_exchanges_50 (fX8_exchanges_36 n) FU mem row wide lost left k0 k1 k2 k3 k4 k5 fo se un (nI acc) (nI g) (nI p) 0 = _ from lw, fX8_exchanges_86, bit1 f (by omega), or_nI, nI_s, cn]
    refine ih n (p + 1) (g ||| 2 ^ f) _ (by omega) (by omega) (or_lt256 hg (by omega)) p2 (by omega) ?_
    rw [tri, z1]
    omega
end
theorem ords_perm (rm : Nat) : ∀ (d : Nat) (cnt : Nat → Nat) (pre x : List Nat), smT cnt 12 0 = d → x ∈ ords rm d cnt pre → ∃ y, x = pre.reverse ++ y ∧ ∀ t, t < 12 → y.count t = cnt t := by
  intro d
  induction d with
  | zero =>
    intro cnt pre x hs h
    rw [ords, List.mem_singleton] at h
    refine ⟨[], by rw [h]; simp, fun t ht => ?_⟩
    have z : ∀ (k s : Nat), smT cnt k s = 0 → ∀ u, s ≤ u → u < s + k → cnt u = 0 := by
      intro k
      induction k with
      | zero => intro s _ u h1 h2; omega
      | succ k ih =>
        intro s h u h1 h2
        rw [smT] at h
        by_cases e : u = s
        · rw [e]; omega
        · exact ih (s + 1) (by omega) u (by omega) (by omega)
    rw [z 12 0 hs t (by omega) (by omega)]
    rfl
  | succ d ih =>
    intro cnt pre x hs h
    rw [ords_s, ofl_mem] at h
    obtain ⟨s, h1, h2, h3⟩ := h
    by_cases c : cnt s = 0 ∨ rm < runTop (s :: pre)
    · rw [if_pos c] at h3; simp at h3
    · rw [if_neg c] at h3
      have e : smT cnt 12 0 = smT (fun u => dec cnt s u + (if u = s then 1 else 0)) 12 0 := smT_congr 12 0 (fun u _ _ => by
        rw [dec_at]
        by_cases q : u = s
        · rw [if_pos q, if_pos q, q]; omega
        · rw [if_neg q, if_neg q]; rfl)
      rw [smT_add, smT_one 1 s 12 0 (by omega) (by omega)] at e
      obtain ⟨y, e1, e2⟩ := ih (dec cnt s) (s :: pre) x (by omega) h3
      refine ⟨s :: y, ?_, fun t ht => ?_⟩
      · rw [e1, List.reverse_cons, List.append_assoc]; rfl
      · rw [count_if, e2 t ht, dec_at]
        by_cases q : t = s
        · rw [if_pos q, if_pos q.symm, q]; omega
        · rw [if_neg q, if_neg (fun r => q r.symm)]; rfl
theorem ordL_perm {rm : Nat} {l x : List Nat} (hR : R16 l) (h : x ∈ ordL rm l) : l.Perm x := by
  obtain ⟨y, e1, e2⟩ := ords_perm rm _ _ _ x (smT_cnt l hR.1) h
  have e : x = y := by rw [e1]; rfl
  subst e
  obtain ⟨h1, h2, h3⟩ := ordL_mem hR h
  refine List.perm_iff_count.mpr (fun t => ?_)
  by_cases c : t < 12
  · exact (e2 t c).symm
  · rw [List.count_eq_zero_of_not_mem (fun q => c (hR.1 t q)), List.count_eq_zero_of_not_mem (fun q => c (h2.1 t q))]
theorem popL_zero : ∀ (n i : Nat), popL 0 i n = 0
  | 0, _ => rfl
  | n + 1, i => by rw [popL, Nat.zero_testBit, if_neg (by decide), popL_zero n (i + 1)]
theorem posL_zero : ∀ (n i : Nat), posL 0 i n = 0
  | 0, _ => rfl
  | n + 1, i => by rw [posL, Nat.zero_testBit, if_neg (by decide), posL_zero n (i + 1)]
