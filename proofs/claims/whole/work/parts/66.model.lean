/-! The model's rows and sums. -/
def ceQ (nb : Nat → Int) : Nat → Int := fun q => qe nb (q / 9) (q % 9)
theorem ceQ_at (nb : Nat → Int) {t c : Nat} (hc : c < 9) : ceQ nb (9 * t + c) = qe nb t c := by
  unfold ceQ
  have e1 : (9 * t + c) / 9 = t := by omega
  have e2 : (9 * t + c) % 9 = c := by omega
  rw [e1, e2]
/-- numbers within bounds -/
def NB (nb : Nat → Int) (kn : Nat) : Prop := ∀ k, k < kn → (1 ≤ nb (5 * k) ∧ nb (5 * k) ≤ 99) ∧ (0 ≤ nb (5 * k + 1) ∧ nb (5 * k + 1) ≤ 99) ∧ (0 ≤ nb (5 * k + 2) ∧ nb (5 * k + 2) ≤ 99) ∧ (0 ≤ nb (5 * k + 3) ∧ nb (5 * k + 3) ≤ 99) ∧ (1 ≤ nb (5 * k + 4) ∧ nb (5 * k + 4) ≤ 999)
theorem NB.four {nb : Nat → Int} {kn t : Nat} (h : NB nb kn) (ht : t < 4 * kn) : ∀ q, q < 4 → -100 ≤ nb (5 * (t / 4) + q) ∧ nb (5 * (t / 4) + q) ≤ 100 := by
  intro q hq
  obtain ⟨h0, h1, h2, h3, -⟩ := h (t / 4) (by omega)
  rcases (show q = 0 ∨ q = 1 ∨ q = 2 ∨ q = 3 by omega) with rfl | rfl | rfl | rfl
  · rw [Nat.add_zero]; omega
  · omega
  · omega
  · omega
theorem sTwo_bd (a : Nat) : sTwo a = 1 ∨ sTwo a = 0 ∨ sTwo a = -1 := by unfold sTwo; split <;> (try split) <;> simp
theorem sThree_bd (a : Nat) : sThree a = 1 ∨ sThree a = -1 := by unfold sThree; split <;> simp
theorem sSkew_bd (a : Nat) : sSkew a = 1 ∨ sSkew a = 0 ∨ sSkew a = -1 := by unfold sSkew; split <;> (try split) <;> simp
theorem qe_bd {nb : Nat → Int} {kn t : Nat} (h : NB nb kn) (ht : t < 4 * kn) (c : Nat) : -600 ≤ qe nb t c ∧ qe nb t c ≤ 600 := by
  obtain ⟨h0, h1, h2, h3, -⟩ := h (t / 4) (by omega)
  unfold qe
  dsimp only
  generalize nb (5 * (t / 4)) = x0 at *
  generalize nb (5 * (t / 4) + 1) = x1 at *
  generalize nb (5 * (t / 4) + 2) = x2 at *
  generalize nb (5 * (t / 4) + 3) = x3 at *
  rcases sTwo_bd (t % 4) with e1 | e1 | e1 <;> rcases sThree_bd (t % 4) with e2 | e2 <;> rcases sSkew_bd (t % 4) with e3 | e3 | e3 <;> rw [e1, e2, e3] <;> repeat' split
  all_goals omega
theorem mHas {g k : Nat} (hg : g < 256) (hk : k < 8) : fX8_has (nI g) (nI k) = if g.testBit k then 1 else 0 := by
  unfold fX8_has
  rw [bitAt g hg k hk]
  by_cases b : g.testBit k = true
  · rw [if_pos b, if_pos rfl]
  · rw [if_neg b, if_neg (by decide)]
/-- a row at hand in the model: its first plies are those of a list -/
def RW (row : Nat → Int32) (l : List Nat) : Prop := ∀ p, p < l.length → row p = nI (l.getD p 0)
theorem mFar (len p : Nat) : ((2 * nI p) + 1) - nI len = i32 (far len p) := by
  rw [show (2 : Int32) = i32 2 from rfl, show (1 : Int32) = i32 1 from rfl, nI_i32, nI_i32, ← i32_mul, ← i32_add, ← i32_sub]
  rfl
theorem getD_cons_succ {t : Nat} {r : List Nat} (q : Nat) : (t :: r).getD (q + 1) 0 = r.getD q 0 := rfl
theorem mSum_loop {mem row : Nat → Int32} {nb : Nat → Int} {kn len w i j g : Nat} (hM : MK mem nb kn) (hB : NB nb kn) (hw : w ≤ 2) (hi : i < 3) (hj : j < 3) (hg : g < 256) (hlen : len ≤ 8) : ∀ (r : List Nat) (p n : Nat) (acc : Int), p + r.length = len → r.length < n → (∀ t ∈ r, t < 4 * kn) → (∀ q, q < r.length → row (p + q) = nI (r.getD q 0)) → fX8_sum_6 n mem row (nI len) (nI g) (nI w) (nI i) (nI j) (i64 acc) (nI p) = some (i64 (acc + totG (ceQ nb) len w (3 * i + j) g p r)) := by
  have hk3 := hM.1
  intro r
  induction r with
  | nil =>
    intro p n acc hp hn _ _
    obtain ⟨n, rfl, -⟩ := succ_of hn
    simp only [List.length_nil, Nat.add_zero] at hp
    rw [fX8_sum_6_s, if_pos ((nI_le' (by omega) (by omega)).mpr (by omega))]
    unfold totG
    rw [Int.add_zero]
  | cons t r ih =>
    intro p n acc hp hn ht hrow
    obtain ⟨n, rfl, hn⟩ := succ_of hn
    simp only [List.length_cons] at hp hn
    have ht0 := ht t List.mem_cons_self
    have hr : ∀ x ∈ r, x < 4 * kn := fun x hx => ht x (List.mem_cons_of_mem _ hx)
    have hrow2 : ∀ q, q < r.length → row (p + 1 + q) = nI (r.getD q 0) := fun q hq => by
      have := hrow (q + 1) (by simp; omega)
      rw [getD_cons_succ] at this
      rw [← this]
      congr 1
      omega
    have hr0 : row p = nI t := hrow 0 (by simp)
    have step : ∀ z : Int, fX8_sum_57 (fX8_sum_6 n) mem row (nI len) (nI g) (nI w) (nI i) (nI j) (i64 acc) (nI p) (i64 z) = some (i64 (acc + ((if g.testBit p then 0 else z * ceQ nb (9 * t + (3 * i + j))) + totG (ceQ nb) len w (3 * i + j) g (p + 1) r))) := by
      intro z
      unfold fX8_sum_57 fX8_sum_93
      rw [mHas hg (by omega), nI_1]
      by_cases b : g.testBit p = true
      · rw [if_pos b, if_pos b, if_neg (by decide), show (0 : Int64) = i64 0 from rfl, ← i64_add, ih (p + 1) n _ (by omega) (by omega) hr hrow2, Int.add_assoc]
      · rw [if_neg b, if_neg b, if_pos rfl, chkN (by omega) (by omega), nI_clamp' (by omega), hr0, mEntry hM ht0 hi hj (hB.four ht0), Option.bind_some, ← i64_mul, ← i64_add, ih (p + 1) n _ (by omega) (by omega) hr hrow2, ceQ_at nb (by omega), Int.add_assoc]
    rw [fX8_sum_6_s, if_neg (fun q => absurd ((nI_le' (by omega) (by omega)).mp q) (by omega)), mFar]
    have hfb : -7 ≤ far len p ∧ far len p ≤ 7 := by unfold far; omega
    have hwb := wgt_le (w := 2) hlen (show p < len by omega)
    unfold totG
    rcases (show w = 0 ∨ w = 1 ∨ w = 2 by omega) with rfl | rfl | rfl
    · rw [if_pos (show nI 0 = 0 from rfl), show (1 : Int64) = i64 1 from rfl, step 1]
      unfold wgt
      simp
    · rw [if_neg (by decide), if_pos (show nI 1 = 1 from rfl), i32_l ⟨by omega, by omega⟩, step]
      rfl
    · have e : ((3 * i32 (far len p)) * i32 (far len p)) + 1 = i32 (3 * far len p * far len p + 1) := cThick (far len p)
      have hb2 : -148 ≤ 3 * far len p * far len p + 1 ∧ 3 * far len p * far len p + 1 ≤ 148 := hwb
      rw [if_neg (by decide), if_neg (by decide), e, i32_l ⟨by omega, by omega⟩, step]
      rfl
theorem mSum {mem row : Nat → Int32} {nb : Nat → Int} {kn w i j g : Nat} {l : List Nat} (hM : MK mem nb kn) (hB : NB nb kn) (hl8 : l.length ≤ 8) (ht : ∀ t ∈ l, t < 4 * kn) (hrow : RW row l) (hw : w ≤ 2) (hi : i < 3) (hj : j < 3) (hg : g < 256) : fX8_sum mem row (nI l.length) (nI g) (nI w) (nI i) (nI j) = some (i64 (totG (ceQ nb) l.length w (3 * i + j) g 0 l)) := by
  unfold fX8_sum
  rw [show (0 : Int64) = i64 0 from rfl, lit_nI0, mSum_loop hM hB hw hi hj hg hl8 l 0 FU 0 (by omega) (FU_gt (by omega)) ht (fun q hq => by rw [Nat.zero_add]; exact hrow q hq), Int.zero_add]
/-- laying the plate -/
theorem mLays_loop {mem : Nat → Int32} {l : List Nat} (hl8 : l.length ≤ 8) (mt : ∀ p, p < l.length → mem (19 + p) = nI (l.getD p 0)) : ∀ (k n i : Nat) (row : Nat → Int32), i + k = l.length → k < n → (∀ p, p < i → row p = nI (l.getD p 0)) → ∃ row', fX8_laysPlate_17 n mem row (nI l.length) 0 (nI i) = some (row', nI l.length, 0) ∧ RW row' l := by
  intro k
  induction k with
  | zero =>
    intro n i row hi hn h
    obtain ⟨n, rfl, -⟩ := succ_of hn
    refine ⟨row, ?_, fun p hp => h p (by omega)⟩
    rw [fX8_laysPlate_17_s, if_pos ((nI_le' (by omega) (by omega)).mpr (by omega))]
  | succ k ih =>
    intro n i row hi hn h
    obtain ⟨n, rfl, hn⟩ := succ_of hn
    obtain ⟨row', h1, h2⟩ := ih n (i + 1) (upd row i (mem (19 + i))) (by omega) (by omega) (fun p hp => by
      by_cases e : p = i
      · rw [e, upd_same]; exact mt i (by omega)
      · rw [upd_ne _ _ e]; exact h p (by omega))
    refine ⟨row', ?_, h2⟩
    rw [fX8_laysPlate_17_s, if_neg (fun q => absurd ((nI_le' (by omega) (by omega)).mp q) (by omega)), chk19 (by omega), chkN (by omega) (by omega), clamp19 (by omega), nI_clamp' (by omega), nI_1]
    exact h1
theorem mLays {mem : Nat → Int32} {l : List Nat} (hl8 : l.length ≤ 8) (m2 : mem 2 = nI l.length) (mt : ∀ p, p < l.length → mem (19 + p) = nI (l.getD p 0)) (row : Nat → Int32) (wide lost : Int32) : ∃ row', fX8_laysPlate mem row wide lost = some (row', nI l.length, 0) ∧ RW row' l := by
  unfold fX8_laysPlate
  rw [m2]
  exact mLays_loop hl8 mt l.length FU 0 row (by omega) (FU_gt (by omega)) (fun p hp => absurd hp (by omega))
theorem mLikes_loop {row : Nat → Int32} {l : List Nat} (hR : R16 l) (hrow : RW row l) : ∀ (k n i c : Nat), i + k = l.length → 1 ≤ i → k < n → fX8_likesHere_4 n row (nI l.length) (nI c) (nI i) = some (nI (c + likes l k i)) := by
  have h8 := hR.2
  intro k
  induction k with
  | zero =>
    intro n i c hi h1 hn
    obtain ⟨n, rfl, -⟩ := succ_of hn
    rw [fX8_likesHere_4_s, if_pos ((nI_le' (by omega) (by omega)).mpr (by omega))]
    rfl
  | succ k ih =>
    intro n i c hi h1 hn
    obtain ⟨n, rfl, hn⟩ := succ_of hn
    have g1 := getD_lt12 hR i
    have g2 := getD_lt12 hR (i - 1)
    have hs : nI i - 1 = nI (i - 1) := nI_sub (b := 1) h1
    rw [fX8_likesHere_4_s, if_neg (fun q => absurd ((nI_le' (by omega) (by omega)).mp q) (by omega)), hs, chkN (by omega) (by omega), chkN (by omega) (by omega), nI_clamp' (by omega), nI_clamp' (by omega), hrow i (by omega), hrow (i - 1) (by omega), lit_nI4, irem_nI (by omega) (by omega) (by omega), irem_nI (by omega) (by omega) (by omega)]
    unfold fX8_likesHere_39 likes
    by_cases e : l.getD i 0 % 4 = l.getD (i - 1) 0 % 4
    · rw [if_pos (by rw [e]), if_pos e, nI_1, nI_1, ih n (i + 1) (c + 1) (by omega) (by omega) (by omega)]
      congr 2
      omega
    · rw [if_neg (nI_ne e (by omega) (by omega)), if_neg e, nI_1, show (0 : Int32) = nI 0 from rfl, nI_add, ih n (i + 1) _ (by omega) (by omega) (by omega), Nat.zero_add, Nat.add_zero]
theorem mLikes {row : Nat → Int32} {l : List Nat} (hR : R16 l) (hrow : RW row l) : fX8_likesHere row (nI l.length) = some (nI (likesN l)) := by
  have h8 := hR.2
  unfold fX8_likesHere likesN
  cases hl : l.length with
  | zero =>
    obtain ⟨m, hm⟩ : ∃ m, FU = m + 1 := ⟨99999, rfl⟩
    rw [hm, fX8_likesHere_4_s, lit_nI1, if_pos ((nI_le' (a := 0) (b := 1) (by omega) (by omega)).mpr (by omega))]
    rfl
  | succ m =>
    have := mLikes_loop hR hrow m FU 1 0 (by omega) (by omega) (FU_gt (by omega))
    rw [hl] at this
    rw [lit_nI0, lit_nI1, this, Nat.zero_add]
    rfl
