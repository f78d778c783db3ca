/-! ways plate by plate -/
theorem if_lt1_n {β : Type} {a : Nat} {x y : β} [Decidable (nI a < 1)] (h : 1 ≤ a) (ha : a < 2147483648) : (if nI a < 1 then x else y) = y := if_neg (fun q => by have := (nI_lt' (b := 1) ha (by omega)).mp q; omega)
theorem and_nI {x y : Nat} : nI x &&& nI y = nI (x &&& y) := by
  apply bv_ext
  intro i hi
  rw [Int32.toBitVec_and, BitVec.getLsbD_and, nI_bit _ _ hi, nI_bit _ _ hi, nI_bit _ _ hi, Nat.testBit_and]
def stpB (d s f : Nat) : Bool := decide (f &&& s = s) && decide ((pop f : Int) - pop s ≤ d)
theorem popL_mono {s f : Nat} : ∀ (n i : Nat), (∀ j, i ≤ j → j < i + n → s.testBit j = true → f.testBit j = true) → popL s i n ≤ popL f i n ∧ (popL s i n = popL f i n → ∀ j, i ≤ j → j < i + n → s.testBit j = f.testBit j)
  | 0, i, _ => ⟨Nat.le_refl _, fun _ j h1 h2 => by omega⟩
  | n + 1, i, h => by
    have ih := popL_mono n (i + 1) (fun j h1 h2 => h j (by omega) (by omega))
    rw [popL, popL]
    cases c : s.testBit i with
    | true =>
      have c2 := h i (by omega) (by omega) c
      rw [c2]
      refine ⟨by omega, fun e j h1 h2 => ?_⟩
      by_cases q : j = i
      · rw [q, c, c2]
      · exact ih.2 (by omega) j (by omega) (by omega)
    | false =>
      cases c2 : f.testBit i with
      | true =>
        simp only [if_true, if_neg (show ¬ false = true by decide)]
        exact ⟨by omega, fun e => by omega⟩
      | false =>
        refine ⟨by omega, fun e j h1 h2 => ?_⟩
        by_cases q : j = i
        · rw [q, c, c2]
        · exact ih.2 (by omega) j (by omega) (by omega)
theorem pop_lt {s f : Nat} (hs : s < 256) (hf : f < 256) (h : f &&& s = s) (hn : ¬ f = s) : pop s < pop f := by
  have hb : ∀ j, s.testBit j = true → f.testBit j = true := fun j hj => by
    have : (f &&& s).testBit j = true := by rw [h]; exact hj
    rw [Nat.testBit_and, Bool.and_eq_true] at this
    exact this.1
  have q := popL_mono (s := s) (f := f) 8 0 (fun j _ _ => hb j)
  have q1 : pop s ≤ pop f := q.1
  by_cases e : pop s = pop f
  · exfalso
    refine hn (Nat.eq_of_testBit_eq (fun j => ?_))
    by_cases c : j < 8
    · exact (q.2 e j (by omega) (by omega)).symm
    · rw [testBit_lt (k := 8) hf (by omega), testBit_lt (k := 8) hs (by omega)]
  · omega
def mnL (F : Nat → Nat) (d s : Nat) : Nat → Nat → Nat → Nat
  | 0, _, acc => acc
  | k + 1, f, acc => mnL F d s k (f + 1) (if stpB d s f then min acc (F f + 1) else acc)
def okF (F : Nat → Nat) (all s : Nat) : Prop := ∀ x, s < x → x ≤ all → F x = 100 ∨ F x + pop x ≤ 8
theorem mnL_ok {F : Nat → Nat} {d s all : Nat} (ha : all < 256) (hF : okF F all s) : ∀ (k f acc : Nat), s < f → f + k = all + 1 → (acc = 100 ∨ acc + pop s ≤ 8) → (mnL F d s k f acc = 100 ∨ mnL F d s k f acc + pop s ≤ 8)
  | 0, f, acc, _, _, h => by rw [mnL]; exact h
  | k + 1, f, acc, h1, h2, h => by
    rw [mnL]
    refine mnL_ok ha hF k (f + 1) _ (by omega) (by omega) ?_
    by_cases c : stpB d s f = true
    · rw [if_pos c]
      unfold stpB at c
      rw [Bool.and_eq_true, decide_eq_true_eq, decide_eq_true_eq] at c
      have p := pop_lt (by omega) (by omega) c.1 (by omega)
      have := hF f h1 (by omega)
      omega
    · rw [if_neg c]; exact h
theorem mnL_far {F : Nat → Nat} {d s all : Nat} (hF : ∀ x, s < x → x ≤ all → F x = 100) : ∀ (k f : Nat), s < f → f + k = all + 1 → mnL F d s k f 100 = 100
  | 0, f, _, _ => by rw [mnL]
  | k + 1, f, h1, h2 => by
    rw [mnL, hF f h1 (by omega), show (if stpB d s f = true then min 100 (100 + 1) else 100) = 100 by split <;> rfl]
    exact mnL_far hF k (f + 1) (by omega) (by omega)
theorem mnL_got {F : Nat → Nat} {d s : Nat} : ∀ (k f acc : Nat), mnL F d s k f acc = acc ∨ ∃ x, f ≤ x ∧ x < f + k ∧ stpB d s x = true ∧ mnL F d s k f acc = F x + 1
  | 0, f, acc => by rw [mnL]; exact Or.inl rfl
  | k + 1, f, acc => by
    rw [mnL]
    rcases mnL_got (F := F) (d := d) (s := s) k (f + 1) (if stpB d s f = true then min acc (F f + 1) else acc) with q | ⟨x, h1, h2, h3, h4⟩
    · by_cases c : stpB d s f = true
      · rw [if_pos c] at q ⊢
        by_cases e : acc ≤ F f + 1
        · left; rw [q]; omega
        · right; exact ⟨f, by omega, by omega, c, by rw [q]; omega⟩
      · rw [if_neg c] at q ⊢
        exact Or.inl q
    · exact Or.inr ⟨x, by omega, by omega, h3, h4⟩
def vl (th : Nat → Bool) (all d : Nat) (F : Nat → Nat) (s : Nat) : Nat := if s = 0 ∧ ¬ all = 0 then 100 else if th s then (if s = all then 0 else mnL F d s (all - s) (s + 1) 100) else 100
def sv (th : Nat → Bool) (all d : Nat) : Nat → Nat → Nat
  | 0 => fun _ => 100
  | j + 1 => fun x => if x = all - j then vl th all d (sv th all d j) (all - j) else sv th all d j x
theorem sv_s (th : Nat → Bool) (all d j x : Nat) : sv th all d (j + 1) x = if x = all - j then vl th all d (sv th all d j) (all - j) else sv th all d j x := rfl
theorem sv_ok {th : Nat → Bool} {all d : Nat} (ha : all < 256) : ∀ j, j ≤ all + 1 → ∀ x, all < x + j → x ≤ all → sv th all d j x = 100 ∨ sv th all d j x + pop x ≤ 8
  | 0, _, x, h1, h2 => by omega
  | j + 1, hj, x, h1, h2 => by
    have ih := sv_ok (th := th) (d := d) ha j (by omega)
    rw [sv_s]
    by_cases e : x = all - j
    · rw [if_pos e, ← e]
      unfold vl
      split
      · exact Or.inl rfl
      · split
        · split
          · have := pop_le8 x
            right; omega
          · exact mnL_ok ha (fun y h3 h4 => ih y (by omega) h4) _ _ _ (by omega) (by omega) (Or.inl rfl)
        · exact Or.inl rfl
    · rw [if_neg e]
      exact ih x (by omega) h2
theorem sv_far {th : Nat → Bool} {all d : Nat} (h0 : th all = false) : ∀ j, j ≤ all + 1 → ∀ x, all < x + j → x ≤ all → sv th all d j x = 100
  | 0, _, x, h1, h2 => by omega
  | j + 1, hj, x, h1, h2 => by
    have ih := sv_far (d := d) h0 j (by omega)
    rw [sv_s]
    by_cases e : x = all - j
    · rw [if_pos e, ← e]
      unfold vl
      split
      · rfl
      · by_cases c : th x = true
        · rw [if_pos c]
          by_cases f : x = all
          · rw [f, h0] at c
            exact absurd c (by decide)
          · rw [if_neg f]
            exact mnL_far (all := all) (fun y h3 h4 => ih y (by omega) h4) _ _ (by omega) (by omega)
        · rw [if_neg c]
    · rw [if_neg e]
      exact ih x (by omega) h2
def ST (th : Nat → Bool) (all d : Nat) : Nat → Nat := sv th all d (all + 1)
theorem ST_ok {th : Nat → Bool} {all d : Nat} (ha : all < 256) {x : Nat} (hx : x ≤ all) : ST th all d x = 100 ∨ ST th all d x + pop x ≤ 8 := sv_ok ha _ (Nat.le_refl _) x (by omega) hx
theorem sv_keep {th : Nat → Bool} {all d : Nat} : ∀ k j x, j + k ≤ all + 1 → all < x + j → sv th all d (j + k) x = sv th all d j x
  | 0, j, x, _, _ => rfl
  | k + 1, j, x, h1, h2 => by
    rw [show j + (k + 1) = (j + k) + 1 by omega, sv_s, if_neg (by omega)]
    exact sv_keep k j x (by omega) h2
/-- a way leads on -/
theorem ST_next {th : Nat → Bool} {all d : Nat} (ha : all < 256) {x : Nat} (hx : x ≤ all) (h0 : 0 < ST th all d x) (h1 : ST th all d x < 100) : ∃ f, x < f ∧ f ≤ all ∧ stpB d x f = true ∧ ST th all d f + 1 = ST th all d x := by
  have e1 : ST th all d x = vl th all d (sv th all d (all - x)) x := by
    have := sv_keep (th := th) (all := all) (d := d) x (all - x + 1) x (by omega) (by omega)
    rw [show all - x + 1 + x = all + 1 by omega] at this
    rw [ST, this, sv_s, show all - (all - x) = x by omega, if_pos rfl]
  rw [e1] at h0 h1 ⊢
  unfold vl at h0 h1 ⊢
  split at h0
  · next c => rw [if_pos c] at h1; omega
  · next c =>
    rw [if_neg c] at h1 ⊢
    split at h0
    · next c2 =>
      rw [if_pos c2] at h1 ⊢
      split at h0
      · omega
      · next c3 =>
        rw [if_neg c3] at h1 ⊢
        rcases mnL_got (F := sv th all d (all - x)) (d := d) (s := x) (all - x) (x + 1) 100 with q | ⟨f, g1, g2, g3, g4⟩
        · rw [q] at h1; omega
        · refine ⟨f, by omega, by omega, g3, ?_⟩
          have := sv_keep (th := th) (all := all) (d := d) (x + 1) (all - x) f (by omega) (by omega)
          rw [show all - x + (x + 1) = all + 1 by omega] at this
          rw [g4]
          show sv th all d (all + 1) f + 1 = _
          rw [this]
    · next c2 => rw [if_neg c2] at h1; omega
def cv (n : Nat) : Int32 := if n = 100 then -1 else nI n
theorem cv_m1 {n : Nat} (h : n = 100 ∨ n ≤ 8) : cv n = -1 ↔ n = 100 := by
  unfold cv
  by_cases c : n = 100
  · rw [if_pos c]; exact ⟨fun _ => c, fun _ => rfl⟩
  · rw [if_neg c]; exact ⟨fun q => absurd q (m1_ne (by omega)), fun q => absurd q c⟩
theorem cSteps {dep : Nat → Int32} {x : Nat} (h : x < 256) : fX6_steps dep (nI x) = some (dep x) := by
  rw [fX6_steps, lit_nI0, if_lt_n (by omega) (by omega), show (256 : Int32) = nI 256 from rfl, if_lt_y h (by omega), chkN h (by omega), nI_clamp' (by omega)]
theorem stride_i {d x y : Nat} (hd : d ≤ 3) (hx : x ≤ 8) (hy : y ≤ 8) : (nI d < nI x - nI y) ↔ ¬ ((x : Int) - y ≤ d) := by
  rw [nI_i32, nI_i32, nI_i32, ← i32_sub, i32_lt ⟨by omega, by omega⟩ ⟨by omega, by omega⟩]
  omega
theorem cLeads {dep : Nat → Int32} {F : Nat} {d s f : Nat} (hd : d ≤ 3) (hs : s < 256) (hf : f < 256) (hF : F = 100 ∨ F ≤ 8) (he : dep f = cv F) : fX6_leads dep (nI d) (nI f) (nI s) = some (b32 (stpB d s f && decide (¬ F = 100))) := by
  have p1 := pop_le8 f
  have p2 := pop_le8 s
  have l1 : f &&& s ≤ s := Nat.and_le_right
  rw [fX6_leads, and_nI, cSteps hf, Option.bind_some, he, bc f hf, bc s hs]
  unfold stpB
  by_cases c : f &&& s = s
  · rw [if_eq_y c, decide_eq_true c, Bool.true_and]
    by_cases e : F = 100
    · rw [if_pos ((cv_m1 hF).mpr e), decide_eq_false (show ¬ ¬ F = 100 from fun q => q e), Bool.and_false]; rfl
    · rw [if_neg (fun q => e ((cv_m1 hF).mp q)), decide_eq_true e, Bool.and_true]
      by_cases g : (pop f : Int) - pop s ≤ d
      · rw [if_neg (fun q => (stride_i hd p1 p2).mp q g), decide_eq_true g]; rfl
      · rw [if_pos ((stride_i hd p1 p2).mpr g), decide_eq_false g]; rfl
  · rw [if_eq_n c (by omega) (by omega), decide_eq_false c, Bool.false_and, Bool.false_and]; rfl
theorem mStep {d s f : Nat} (hd : d ≤ 3) (hs : s < 256) (hf : f < 256) (hn : ¬ f = s) : fX8_isStep (nI f) (nI s) (nI d) = b32 (stpB d s f) := by
  have p1 := pop_le8 f
  have p2 := pop_le8 s
  have l1 : f &&& s ≤ s := Nat.and_le_right
  rw [fX8_isStep, if_eq_n hn (by omega) (by omega), and_nI, bc f hf, bc s hs]
  unfold stpB
  by_cases c : f &&& s = s
  · rw [if_eq_y c, decide_eq_true c, Bool.true_and]
    by_cases g : (pop f : Int) - pop s ≤ d
    · rw [if_neg (fun q => (stride_i hd p1 p2).mp q g), decide_eq_true g]; rfl
    · rw [if_pos ((stride_i hd p1 p2).mpr g), decide_eq_false g]; rfl
  · rw [if_eq_n c (by omega) (by omega), decide_eq_false c, Bool.false_and]; rfl
def lv1 (acc : Nat) : Int32 := if acc = 100 then -1 else nI (acc - 1)
theorem cMin_loop {dep : Nat → Int32} {F : Nat → Nat} {all d s : Nat} (ha : all < 256) (hd : d ≤ 3) (hF : okF F all s) (he : ∀ x, s < x → x ≤ all → dep x = cv (F x)) (hs : s < 256) : ∀ (k n f acc : Nat), s < f → f + k = all + 1 → k < n → (acc = 100 ∨ (1 ≤ acc ∧ acc ≤ 9)) → fX6_leastDepthAbove_6 n dep (nI all) (nI d) (nI s) (lv1 acc) (nI f) = some (lv1 (mnL F d s k f acc)) := by
  intro k
  induction k with
  | zero =>
    intro n f acc h1 h2 hn hacc
    obtain ⟨n, rfl, -⟩ := succ_of hn
    rw [fX6_leastDepthAbove_6, if_lt_y (by omega) (by omega), mnL]
  | succ k ih =>
    intro n f acc h1 h2 hn hacc
    obtain ⟨n, rfl, hn'⟩ := succ_of hn
    have hf := hF f h1 (by omega)
    have hf8 : F f = 100 ∨ F f ≤ 8 := by omega
    rw [fX6_leastDepthAbove_6, if_lt_n (by omega) (by omega), cLeads hd hs (by omega) hf8 (he f h1 (by omega)), Option.bind_some, mnL]
    simp only [fX6_leastDepthAbove_38, fX6_leastDepthAbove_45, nI_s]
    by_cases c : stpB d s f = true
    · rw [if_pos c, c, Bool.true_and]
      by_cases e : F f = 100
      · rw [decide_eq_false (fun q => q e), if_pos (show b32 false = 0 from rfl), ih n (f + 1) acc (by omega) (by omega) (by omega) hacc, e, show min acc (100 + 1) = acc by omega]
      · have hl : nI (F f) = lv1 (F f + 1) := by unfold lv1; rw [if_neg (by omega)]; rfl
        rw [decide_eq_true e, if_neg (show ¬ b32 true = 0 by decide), chkN (by omega) (by omega), nI_clamp' (by omega), chkN (by omega) (by omega), he f h1 (by omega), cv, if_neg e]
        by_cases q : acc = 100
        · rw [if_pos (by unfold lv1; rw [if_pos q]), hl, ih n (f + 1) _ (by omega) (by omega) (by omega) (by omega), show min acc (F f + 1) = F f + 1 by omega]
        · rw [if_neg (by unfold lv1; rw [if_neg q]; exact m1_ne (by omega))]
          have hl2 : lv1 acc = nI (acc - 1) := by unfold lv1; rw [if_neg q]
          by_cases r : acc - 1 ≤ F f
          · rw [hl2, if_le_y r (by omega), ← hl2, ih n (f + 1) acc (by omega) (by omega) (by omega) hacc, show min acc (F f + 1) = acc by omega]
          · rw [hl2, if_le_n (by omega) (by omega), hl, ih n (f + 1) _ (by omega) (by omega) (by omega) (by omega), show min acc (F f + 1) = F f + 1 by omega]
    · rw [if_neg c, Bool.eq_false_iff.mpr c, Bool.false_and, if_pos (show b32 false = 0 from rfl), ih n (f + 1) acc (by omega) (by omega) (by omega) hacc]
theorem mMin_loop {mem row : Nat → Int32} {wide lost m : Int32} {F : Nat → Nat} {all d s : Nat} (ha : all < 256) (hd : d ≤ 3) (hF : okF F all s) (hs : s < 256) (k8 : (Nat → Int32) → (Nat → Int32) → Int32 → Int32 → (Nat → Int32) → Int32 → Int32 → Int32 → Int32 → Option ((Nat → Int32) × Int32 × Int32 × (Nat → Int32))) : ∀ (k n f acc : Nat) (stp : Nat → Int32), s < f → f + k = all + 1 → k < n → acc ≤ 100 → stp s = nI acc → (∀ x, s < x → x ≤ all → stp x = nI (F x)) → ∃ stp2, fX8_laysSteps_69 k8 n mem row wide lost stp m (nI d) (nI all) (nI s) (nI f) = fX8_laysSteps_129 k8 mem row wide lost stp2 m (nI d) (nI all) (nI s) ∧ stp2 s = nI (mnL F d s k f acc) ∧ ∀ x, ¬ x = s → stp2 x = stp x := by
  intro k
  induction k with
  | zero =>
    intro n f acc stp h1 h2 hn hacc h3 h4
    obtain ⟨n, rfl, -⟩ := succ_of hn
    exact ⟨stp, by rw [fX8_laysSteps_69, if_lt_y (by omega) (by omega)], by rw [mnL]; exact h3, fun _ _ => rfl⟩
  | succ k ih =>
    intro n f acc stp h1 h2 hn hacc h3 h4
    obtain ⟨n, rfl, hn'⟩ := succ_of hn
    have hf := hF f h1 (by omega)
    have st : ∀ z a2, z = nI a2 → a2 ≤ 100 → mnL F d s (k + 1) f acc = mnL F d s k (f + 1) a2 → ∃ stp2, fX8_laysSteps_122 k8 (fX8_laysSteps_69 k8 n) mem row wide lost stp m (nI d) (nI all) (nI s) (nI f) (nI s) z = fX8_laysSteps_129 k8 mem row wide lost stp2 m (nI d) (nI all) (nI s) ∧ stp2 s = nI (mnL F d s (k + 1) f acc) ∧ ∀ x, ¬ x = s → stp2 x = stp x := by
      intro z a2 hz h100 hm
      obtain ⟨stp2, q1, q2, q3⟩ := ih n (f + 1) a2 (upd stp s z) (by omega) (by omega) (by omega) h100 (by rw [upd_same, hz]) (fun x g1 g2 => by rw [upd_ne _ _ (by omega)]; exact h4 x g1 g2)
      refine ⟨stp2, ?_, by rw [hm]; exact q2, fun x hx => by rw [q3 x hx, upd_ne _ _ hx]⟩
      rw [fX8_laysSteps_122, chkN hs (by omega), nI_clamp' (by omega), nI_s]
      exact q1
    rw [fX8_laysSteps_69, if_lt_n (by omega) (by omega), mStep hd hs (by omega) (by omega), chkN hs (by omega), chkN hs (by omega), chkN (by omega) (by omega), nI_clamp' (by omega), nI_clamp' (by omega), h3, h4 f h1 (by omega), nI_s, imin_nI (by omega) (by omega)]
    cases c : stpB d s f with
    | false =>
      rw [if_pos (show b32 false = 0 from rfl)]
      exact st _ acc rfl hacc (by rw [mnL, c]; rfl)
    | true =>
      rw [if_neg (show ¬ b32 true = 0 by decide)]
      exact st _ (min acc (F f + 1)) rfl (by omega) (by rw [mnL, c]; rfl)
theorem fill_loop {v : Int32} : ∀ (k n i : Nat) (f : Nat → Int32), i + k = 256 → k < n → (∀ x, x < i → f x = v) → ∃ f2, fJ7_fill_53178_5 n 256 f v (nI i) (nI 256) = some f2 ∧ ∀ x, x < 256 → f2 x = v := by
  intro k
  induction k with
  | zero =>
    intro n i f hi hn h
    obtain ⟨n, rfl, -⟩ := succ_of hn
    exact ⟨f, by rw [fJ7_fill_53178_5, if_le_y (by omega) (by omega)], fun x hx => h x (by omega)⟩
  | succ k ih =>
    intro n i f hi hn h
    obtain ⟨n, rfl, hn'⟩ := succ_of hn
    rw [fJ7_fill_53178_5, if_le_n (by omega) (by omega), chkN (by omega) (by omega), nI_clamp' (by omega), nI_s]
    exact ih n (i + 1) _ (by omega) (by omega) (fun x hx => by
      by_cases e : x = i
      · rw [e, upd_same]
      · rw [upd_ne _ _ e]; exact h x (by omega))
section
variable {numbers cells rows sizes rooms mem : Nat → Int32} {kn a : Nat} {l : List Nat} {rm : Nat} {nb : Nat → Int}
theorem VW.expC_loop (h : VW numbers cells rows sizes rooms mem kn a l rm nb) {m d all : Nat} (hm : m < 8) (hd : d ≤ 3) (hal : all = 2 ^ l.length - 1) (ha : all < 256) : ∀ (s j n : Nat) (dep : Nat → Int32), s + j = all → 1 ≤ j → s < n → (∀ x, s < x → x ≤ all → dep x = cv (sv (TH nb l rm m) all d j x)) → (∀ x, x ≤ s → dep x = -1) → ∃ dep2, fX6_explore_69 n dep (nI all) (nI d) cells rows sizes rooms (nI a) (nI m) (nI s) = some (dep2, nI all, nI d) ∧ ∀ x, x ≤ all → dep2 x = cv (ST (TH nb l rm m) all d x) := by
  intro s
  induction s with
  | zero =>
    intro j n dep hj h1 hn h3 h4
    obtain ⟨n, rfl, -⟩ := succ_of hn
    refine ⟨dep, by rw [fX6_explore_69, lit_nI1, if_lt_y (by omega) (by omega)], fun x hx => ?_⟩
    unfold ST
    rw [show all + 1 = j + 1 by omega, sv_s]
    by_cases e : x = 0
    · rw [if_pos (by omega), h4 x (by omega), show all - j = 0 by omega]
      unfold vl
      rw [if_pos ⟨rfl, by omega⟩]
      rfl
    · rw [if_neg (by omega), h3 x (by omega) hx]
  | succ s ih =>
    intro j n dep hj h1 hn h3 h4
    obtain ⟨n, rfl, hn'⟩ := succ_of hn
    have ok : okF (sv (TH nb l rm m) all d j) all (s + 1) := fun x g1 g2 => sv_ok ha j (by omega) x (by omega) g2
    have lo := cMin_loop ha hd ok h3 (by omega) (all - (s + 1)) FU (s + 1 + 1) 100 (by omega) (by omega) (FU_gt (by omega)) (Or.inl rfl)
    have mo := mnL_ok ha ok (d := d) (all - (s + 1)) (s + 1 + 1) 100 (by omega) (by omega) (Or.inl rfl)
    have e1 : nI (s + 1) + (-1 : Int32) = nI s := by
      rw [nI_i32, nI_i32, show (-1 : Int32) = i32 (-1) from rfl, ← i32_add]
      congr 1
      omega
    have st : ∀ z, z = cv (vl (TH nb l rm m) all d (sv (TH nb l rm m) all d j) (s + 1)) → ∃ dep2, fX6_explore_69 n (upd dep (s + 1) z) (nI all) (nI d) cells rows sizes rooms (nI a) (nI m) (nI s) = some (dep2, nI all, nI d) ∧ ∀ x, x ≤ all → dep2 x = cv (ST (TH nb l rm m) all d x) := by
      intro z hz
      refine ih (j + 1) n _ (by omega) (by omega) (by omega) (fun x g1 g2 => ?_) (fun x g1 => by rw [upd_ne _ _ (by omega)]; exact h4 x (by omega))
      rw [sv_s, show all - j = s + 1 by omega]
      by_cases e : x = s + 1
      · rw [e, upd_same, if_pos rfl, hz]
      · rw [upd_ne _ _ e, if_neg e]; exact h3 x (by omega) g2
    have st0 : vl (TH nb l rm m) all d (sv (TH nb l rm m) all d j) (s + 1) = 100 → ∃ dep2, fX6_explore_69 n dep (nI all) (nI d) cells rows sizes rooms (nI a) (nI m) (nI s) = some (dep2, nI all, nI d) ∧ ∀ x, x ≤ all → dep2 x = cv (ST (TH nb l rm m) all d x) := by
      intro q
      have := st (-1) (by rw [q]; rfl)
      rw [show upd dep (s + 1) (-1) = dep by
        funext x
        by_cases e : x = s + 1
        · rw [e, upd_same, h4 (s + 1) (Nat.le_refl _)]
        · rw [upd_ne _ _ e]] at this
      exact this
    have hv : vl (TH nb l rm m) all d (sv (TH nb l rm m) all d j) (s + 1) = if TH nb l rm m (s + 1) then mnL (sv (TH nb l rm m) all d j) d (s + 1) (all - (s + 1)) (s + 1 + 1) 100 else 100 := by
      unfold vl
      rw [if_neg (by omega), if_neg (show ¬ s + 1 = all by omega)]
    rw [fX6_explore_69, if_lt1_n (by omega) (by omega), fX6_leastDepthAbove, nI_s, show fX6_leastDepthAbove_6 FU dep (nI all) (nI d) (nI (s + 1)) (-1) (nI (s + 1 + 1)) = _ from lo, Option.bind_some, h.thinC (by omega) hm, Option.bind_some]
    simp only [fX6_explore_110, e1]
    by_cases c : mnL (sv (TH nb l rm m) all d j) d (s + 1) (all - (s + 1)) (s + 1 + 1) 100 = 100
    · rw [if_pos (by unfold lv1; rw [if_pos c])]
      exact st0 (by rw [hv, c]; split <;> rfl)
    · rw [if_neg (by unfold lv1; rw [if_neg c]; exact m1_ne (by omega))]
      cases t : TH nb l rm m (s + 1) with
      | false =>
        rw [if_pos (show b32 false = 0 from rfl)]
        exact st0 (by rw [hv, t]; rfl)
      | true =>
        rw [if_neg (show ¬ b32 true = 0 by decide), chkN (by omega) (by omega), nI_clamp' (by omega)]
        refine st _ ?_
        rw [hv, t, if_pos rfl]
        unfold lv1 cv
        rw [if_neg c, if_neg c]
        have : 1 ≤ mnL (sv (TH nb l rm m) all d j) d (s + 1) (all - (s + 1)) (s + 1 + 1) 100 := by
          rcases mnL_got (F := sv (TH nb l rm m) all d j) (d := d) (s := s + 1) (all - (s + 1)) (s + 1 + 1) 100 with q | ⟨f, g1, g2, g3, g4⟩
          · omega
          · omega
        rw [nI_s]
        congr 1
        omega
end
