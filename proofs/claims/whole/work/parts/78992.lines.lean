/-! lines of a text -/
theorem sob3 {α0 α1 α2 β : Type} (K : α0 → α1 → α2 → Option β) (a0 : α0) (a1 : α1) (a2 : α2) : ob3 (some (a0, a1, a2)) K = K a0 a1 a2 := rfl
theorem sob4 {α0 α1 α2 α3 β : Type} (K : α0 → α1 → α2 → α3 → Option β) (a0 : α0) (a1 : α1) (a2 : α2) (a3 : α3) : ob4 (some (a0, a1, a2, a3)) K = K a0 a1 a2 a3 := rfl
theorem sob6 {α0 α1 α2 α3 α4 α5 β : Type} (K : α0 → α1 → α2 → α3 → α4 → α5 → Option β) (a0 : α0) (a1 : α1) (a2 : α2) (a3 : α3) (a4 : α4) (a5 : α5) : ob6 (some (a0, a1, a2, a3, a4, a5)) K = K a0 a1 a2 a3 a4 a5 := rfl
theorem sob7 {α0 α1 α2 α3 α4 α5 α6 β : Type} (K : α0 → α1 → α2 → α3 → α4 → α5 → α6 → Option β) (a0 : α0) (a1 : α1) (a2 : α2) (a3 : α3) (a4 : α4) (a5 : α5) (a6 : α6) : ob7 (some (a0, a1, a2, a3, a4, a5, a6)) K = K a0 a1 a2 a3 a4 a5 a6 := rfl
theorem sob8 {α0 α1 α2 α3 α4 α5 α6 α7 β : Type} (K : α0 → α1 → α2 → α3 → α4 → α5 → α6 → α7 → Option β) (a0 : α0) (a1 : α1) (a2 : α2) (a3 : α3) (a4 : α4) (a5 : α5) (a6 : α6) (a7 : α7) : ob8 (some (a0, a1, a2, a3, a4, a5, a6, a7)) K = K a0 a1 a2 a3 a4 a5 a6 a7 := rfl
theorem sob9 {α0 α1 α2 α3 α4 α5 α6 α7 α8 β : Type} (K : α0 → α1 → α2 → α3 → α4 → α5 → α6 → α7 → α8 → Option β) (a0 : α0) (a1 : α1) (a2 : α2) (a3 : α3) (a4 : α4) (a5 : α5) (a6 : α6) (a7 : α7) (a8 : α8) : ob9 (some (a0, a1, a2, a3, a4, a5, a6, a7, a8)) K = K a0 a1 a2 a3 a4 a5 a6 a7 a8 := rfl
theorem sob10 {α0 α1 α2 α3 α4 α5 α6 α7 α8 α9 β : Type} (K : α0 → α1 → α2 → α3 → α4 → α5 → α6 → α7 → α8 → α9 → Option β) (a0 : α0) (a1 : α1) (a2 : α2) (a3 : α3) (a4 : α4) (a5 : α5) (a6 : α6) (a7 : α7) (a8 : α8) (a9 : α9) : ob10 (some (a0, a1, a2, a3, a4, a5, a6, a7, a8, a9)) K = K a0 a1 a2 a3 a4 a5 a6 a7 a8 a9 := rfl
theorem sob11 {α0 α1 α2 α3 α4 α5 α6 α7 α8 α9 α10 β : Type} (K : α0 → α1 → α2 → α3 → α4 → α5 → α6 → α7 → α8 → α9 → α10 → Option β) (a0 : α0) (a1 : α1) (a2 : α2) (a3 : α3) (a4 : α4) (a5 : α5) (a6 : α6) (a7 : α7) (a8 : α8) (a9 : α9) (a10 : α10) : ob11 (some (a0, a1, a2, a3, a4, a5, a6, a7, a8, a9, a10)) K = K a0 a1 a2 a3 a4 a5 a6 a7 a8 a9 a10 := rfl
theorem sob15 {α0 α1 α2 α3 α4 α5 α6 α7 α8 α9 α10 α11 α12 α13 α14 β : Type} (K : α0 → α1 → α2 → α3 → α4 → α5 → α6 → α7 → α8 → α9 → α10 → α11 → α12 → α13 → α14 → Option β) (a0 : α0) (a1 : α1) (a2 : α2) (a3 : α3) (a4 : α4) (a5 : α5) (a6 : α6) (a7 : α7) (a8 : α8) (a9 : α9) (a10 : α10) (a11 : α11) (a12 : α12) (a13 : α13) (a14 : α14) : ob15 (some (a0, a1, a2, a3, a4, a5, a6, a7, a8, a9, a10, a11, a12, a13, a14)) K = K a0 a1 a2 a3 a4 a5 a6 a7 a8 a9 a10 a11 a12 a13 a14 := rfl
theorem sob17 {α0 α1 α2 α3 α4 α5 α6 α7 α8 α9 α10 α11 α12 α13 α14 α15 α16 β : Type} (K : α0 → α1 → α2 → α3 → α4 → α5 → α6 → α7 → α8 → α9 → α10 → α11 → α12 → α13 → α14 → α15 → α16 → Option β) (a0 : α0) (a1 : α1) (a2 : α2) (a3 : α3) (a4 : α4) (a5 : α5) (a6 : α6) (a7 : α7) (a8 : α8) (a9 : α9) (a10 : α10) (a11 : α11) (a12 : α12) (a13 : α13) (a14 : α14) (a15 : α15) (a16 : α16) : ob17 (some (a0, a1, a2, a3, a4, a5, a6, a7, a8, a9, a10, a11, a12, a13, a14, a15, a16)) K = K a0 a1 a2 a3 a4 a5 a6 a7 a8 a9 a10 a11 a12 a13 a14 a15 a16 := rfl

theorem le_n' {x y : Int32} {a b : Nat} (hx : x = nI a) (hy : y = nI b) (h : b < a) (ha : a < 2147483648) : ¬ x ≤ y := fun q => by rw [hx, hy] at q; have := (nI_le' ha (by omega)).mp q; omega
theorem le_y' {x y : Int32} {a b : Nat} (hx : x = nI a) (hy : y = nI b) (h : a ≤ b) (hb : b < 2147483648) : x ≤ y := by rw [hx, hy]; exact (nI_le' (by omega) hb).mpr h
theorem lt_n' {x y : Int32} {a b : Nat} (hx : x = nI a) (hy : y = nI b) (h : b ≤ a) (ha : a < 2147483648) : ¬ x < y := fun q => by rw [hx, hy] at q; have := (nI_lt' ha (by omega)).mp q; omega
theorem lt_y' {x y : Int32} {a b : Nat} (hx : x = nI a) (hy : y = nI b) (h : a < b) (hb : b < 2147483648) : x < y := by rw [hx, hy]; exact (nI_lt' (by omega) hb).mpr h
theorem eq_n' {x y : Int32} {a b : Nat} (hx : x = nI a) (hy : y = nI b) (h : ¬ a = b) (ha : a < 2147483648) (hb : b < 2147483648) : ¬ x = y := by rw [hx, hy]; exact nI_ne h ha hb
theorem stf_eq : ∀ a, a < 4 → stF 2 a = i32 (sTwo a) ∧ stF 3 a = i32 (sThree a) ∧ stF 4 a = i32 (sSkew a) := by decide +kernel
theorem and15 : ∀ t, t < 16 → nI t &&& 15 = nI t := by decide +kernel
theorem setCell_eq {cells : Nat → Int32} {t c : Nat} (ht : t < 16) (hc : c < 9) (x : Int32) : fX1_setCell cells (nI t) (nI c) x = some (upd cells (9 * t + c) x) := by
  rw [fX1_setCell, if_neg (nI_nn0 (by omega)), if_neg (lt_n' (x := 8) (a := 8) rfl rfl (show c ≤ 8 by omega) (by omega)), and15 t ht, lit_nI9, nI_mul, nI_add, show t * 9 + c = 9 * t + c by omega, chkN (by omega) (by omega), nI_clamp' (by omega)]
theorem sbA {α : Type} (x : Nat → Int32) (f : (Nat → Int32) → Option α) : (some x).bind f = f x := rfl
theorem fill_step {cells : Nat → Int32} {kn a : Nat} (hk : kn < 3) (ha : a < 4) (nb : Nat → Int) {v0 v1 v2 v3 : Int32} (e0 : v0 = i32 (nb (5 * kn))) (e1 : v1 = i32 (nb (5 * kn + 1))) (e2 : v2 = i32 (nb (5 * kn + 2))) (e3 : v3 = i32 (nb (5 * kn + 3))) (fu : Nat) : ∃ c2 : Nat → Int32, fX1_fillCells_33 (fu + 1) cells (nI kn) v0 v1 v2 v3 (nI a) = fX1_fillCells_33 fu c2 (nI kn) v0 v1 v2 v3 (nI (a + 1)) ∧ (∀ j, j < 9 * (4 * kn + a) → c2 j = cells j) ∧ (∀ j, 9 * (4 * kn + a) + 9 ≤ j → c2 j = cells j) ∧ ∀ c, c < 9 → c2 (9 * (4 * kn + a) + c) = i32 (qe nb (4 * kn + a) c) := by
  obtain ⟨f2, f3, f4⟩ := stf_eq a ha
  have ht : nI kn * 4 + nI a = nI (4 * kn + a) := by rw [lit_nI4, nI_mul, nI_add, Nat.mul_comm kn 4]
  have d1 : (4 * kn + a) / 4 = kn := by omega
  have d2 : (4 * kn + a) % 4 = a := by omega
  have two : (2 : Int32) = i32 2 := rfl
  have q0 : ((2 * v0) + ((2 * v1) * stF 2 a)) + ((2 * v2) * stF 3 a) = i32 (qe nb (4 * kn + a) 0) := by
    simp only [f2, f3, e0, e1, e2, two, ← i32_mul, ← i32_add, ← i32_sub]
    simp [qe, d1, d2]
  have q4 : ((2 * v0) - ((2 * v1) * stF 2 a)) + ((2 * v2) * stF 3 a) = i32 (qe nb (4 * kn + a) 4) := by
    simp only [f2, f3, e0, e1, e2, two, ← i32_mul, ← i32_add, ← i32_sub]
    simp [qe, d1, d2]
  have q1 : (2 * v3) - ((2 * v2) * stF 3 a) = i32 (qe nb (4 * kn + a) 1) := by
    simp only [f3, e3, e2, two, ← i32_mul, ← i32_add, ← i32_sub]
    simp [qe, d1, d2]
  have q3 : (2 * v3) - ((2 * v2) * stF 3 a) = i32 (qe nb (4 * kn + a) 3) := by
    simp only [f3, e3, e2, two, ← i32_mul, ← i32_add, ← i32_sub]
    simp [qe, d1, d2]
  have q8 : (v0 - v3) - ((2 * v2) * stF 3 a) = i32 (qe nb (4 * kn + a) 8) := by
    simp only [f3, e0, e3, e2, two, ← i32_mul, ← i32_add, ← i32_sub]
    simp [qe, d1, d2]
  have q2 : v1 * stF 4 a = i32 (qe nb (4 * kn + a) 2) := by
    simp only [f4, e1, ← i32_mul]
    simp [qe, d1, d2]
  have q5 : qe nb (4 * kn + a) 5 = qe nb (4 * kn + a) 2 := by simp [qe]
  have q6 : qe nb (4 * kn + a) 6 = qe nb (4 * kn + a) 2 := by simp [qe]
  have q7 : qe nb (4 * kn + a) 7 = qe nb (4 * kn + a) 2 := by simp [qe]
  have st : ∀ (ce : Nat → Int32) (c : Nat), c < 9 → ∀ x : Int32, fX1_setCell ce (nI kn * 4 + nI a) (nI c) x = some (upd ce (9 * (4 * kn + a) + c) x) := fun ce c hc x => by rw [ht]; exact setCell_eq (by omega) hc x
  refine ⟨upd (upd (upd (upd (upd (upd (upd (upd (upd cells (9 * (4 * kn + a) + 0) (i32 (qe nb (4 * kn + a) 0))) (9 * (4 * kn + a) + 4) (i32 (qe nb (4 * kn + a) 4))) (9 * (4 * kn + a) + 1) (i32 (qe nb (4 * kn + a) 1))) (9 * (4 * kn + a) + 3) (i32 (qe nb (4 * kn + a) 3))) (9 * (4 * kn + a) + 8) (i32 (qe nb (4 * kn + a) 8))) (9 * (4 * kn + a) + 2) (i32 (qe nb (4 * kn + a) 2))) (9 * (4 * kn + a) + 6) (i32 (qe nb (4 * kn + a) 2))) (9 * (4 * kn + a) + 5) (i32 (qe nb (4 * kn + a) 2))) (9 * (4 * kn + a) + 7) (i32 (qe nb (4 * kn + a) 2)), ?_, fun j hj => ?_, fun j hj => ?_, fun c hc => ?_⟩
  · rw [fX1_fillCells_33, if_neg (le_n' (x := 4) (a := 4) rfl rfl ha (by omega)), chkN ha (by omega), chkN ha (by omega), chkN ha (by omega), nI_clamp' (by omega), q0, q4, q8, q2]
    have s0 := st cells 0 (by omega) (i32 (qe nb (4 * kn + a) 0))
    rw [show (nI 0 : Int32) = 0 from rfl] at s0
    rw [s0, sbA]
    rw [show (4 : Int32) = nI 4 from rfl] at *
    rw [st _ 4 (by omega), sbA, q1, show fX1_setCell (upd (upd cells (9 * (4 * kn + a) + 0) (i32 (qe nb (4 * kn + a) 0))) (9 * (4 * kn + a) + 4) (i32 (qe nb (4 * kn + a) 4))) (nI kn * nI 4 + nI a) 1 (i32 (qe nb (4 * kn + a) 1)) = _ from st _ 1 (by omega) _, sbA]
    rw [← q1, q3]
    rw [show ∀ ce x, fX1_setCell ce (nI kn * nI 4 + nI a) 3 x = _ from fun ce x => st ce 3 (by omega) x, sbA, show ∀ ce x, fX1_setCell ce (nI kn * nI 4 + nI a) 8 x = _ from fun ce x => st ce 8 (by omega) x, sbA, show ∀ ce x, fX1_setCell ce (nI kn * nI 4 + nI a) 2 x = _ from fun ce x => st ce 2 (by omega) x, sbA, show ∀ ce x, fX1_setCell ce (nI kn * nI 4 + nI a) 6 x = _ from fun ce x => st ce 6 (by omega) x, sbA, show ∀ ce x, fX1_setCell ce (nI kn * nI 4 + nI a) 5 x = _ from fun ce x => st ce 5 (by omega) x, sbA, show ∀ ce x, fX1_setCell ce (nI kn * nI 4 + nI a) 7 x = _ from fun ce x => st ce 7 (by omega) x, sbA, nI_s]
  · rw [upd_ne _ _ (by omega), upd_ne _ _ (by omega), upd_ne _ _ (by omega), upd_ne _ _ (by omega), upd_ne _ _ (by omega), upd_ne _ _ (by omega), upd_ne _ _ (by omega), upd_ne _ _ (by omega), upd_ne _ _ (by omega)]
  · rw [upd_ne _ _ (by omega), upd_ne _ _ (by omega), upd_ne _ _ (by omega), upd_ne _ _ (by omega), upd_ne _ _ (by omega), upd_ne _ _ (by omega), upd_ne _ _ (by omega), upd_ne _ _ (by omega), upd_ne _ _ (by omega)]
  · rcases (show c = 0 ∨ c = 1 ∨ c = 2 ∨ c = 3 ∨ c = 4 ∨ c = 5 ∨ c = 6 ∨ c = 7 ∨ c = 8 by omega) with rfl | rfl | rfl | rfl | rfl | rfl | rfl | rfl | rfl <;> (try rw [q5]) <;> (try rw [q6]) <;> (try rw [q7]) <;> repeat (first | exact upd_same _ _ _ | rw [upd_ne _ _ (by omega)])
theorem fill_all {kn : Nat} (hk : kn < 3) (nb : Nat → Int) {v0 v1 v2 v3 : Int32} (e0 : v0 = i32 (nb (5 * kn))) (e1 : v1 = i32 (nb (5 * kn + 1))) (e2 : v2 = i32 (nb (5 * kn + 2))) (e3 : v3 = i32 (nb (5 * kn + 3))) : ∀ (m a fu : Nat) (cells : Nat → Int32), a + m = 4 → m < fu → ∃ c2 : Nat → Int32, fX1_fillCells_33 fu cells (nI kn) v0 v1 v2 v3 (nI a) = some c2 ∧ (∀ j, j < 9 * (4 * kn + a) → c2 j = cells j) ∧ ∀ a', a ≤ a' → a' < 4 → ∀ c, c < 9 → c2 (9 * (4 * kn + a') + c) = i32 (qe nb (4 * kn + a') c) := by
  intro m
  induction m with
  | zero =>
    intro a fu cells ha hf
    obtain ⟨fu, rfl, -⟩ := succ_of hf
    refine ⟨cells, ?_, fun _ _ => rfl, fun a' h1 h2 => by omega⟩
    rw [fX1_fillCells_33, if_pos (le_y' (x := 4) (a := 4) rfl rfl (by omega) (by omega))]
  | succ m ih =>
    intro a fu cells ha hf
    obtain ⟨fu, rfl, hf'⟩ := succ_of hf
    obtain ⟨c1, p1, p2, p3, p4⟩ := fill_step (cells := cells) (a := a) hk (by omega) nb e0 e1 e2 e3 fu
    obtain ⟨c2, r1, r2, r3⟩ := ih (a + 1) fu c1 (by omega) (by omega)
    refine ⟨c2, p1.trans r1, fun j hj => by rw [r2 j (by omega), p2 j hj], fun a' h1 h2 c hc => ?_⟩
    by_cases y : a' = a
    · rw [y, r2 _ (by omega), p4 c hc]
    · exact r3 a' (by omega) h2 c hc
theorem num_at {numbers : Nat → Int32} {k j : Nat} (hk : k < 3) (hj : j < 5) : fX1_number numbers (nI k) (nI j) = some (numbers (5 * k + j)) := by
  rw [fX1_number, if_neg (nI_nn (by omega)), lit_nI3, if_le_n hk (by omega), if_neg (nI_nn (by omega)), if_pos (le_y' (y := 4) (b := 4) rfl rfl (by omega) (by omega)), lit_nI5, nI_mul, nI_add, chkN (by omega) (by omega), nI_clamp' (by omega)]
theorem fillCells_ok {numbers cells : Nat → Int32} {kn : Nat} (hk : kn < 3) (nb : Nat → Int) (h : ∀ j, j < 5 → numbers (5 * kn + j) = i32 (nb (5 * kn + j))) : ∃ c2 : Nat → Int32, fX1_fillCells numbers cells (nI kn) = some c2 ∧ (∀ j, j < 9 * (4 * kn) → c2 j = cells j) ∧ ∀ a, a < 4 → ∀ c, c < 9 → c2 (9 * (4 * kn + a) + c) = i32 (qe nb (4 * kn + a) c) := by
  obtain ⟨c2, p1, p2, p3⟩ := fill_all hk nb (v0 := numbers (5 * kn + 0)) (v1 := numbers (5 * kn + 1)) (v2 := numbers (5 * kn + 2)) (v3 := numbers (5 * kn + 3)) (h 0 (by omega)) (h 1 (by omega)) (h 2 (by omega)) (h 3 (by omega)) 4 0 FU cells (by omega) (FU_gt (by omega))
  refine ⟨c2, ?_, p2, fun a ha => p3 a (by omega) ha⟩
  have n0 := num_at (numbers := numbers) (k := kn) (j := 0) hk (by omega)
  have n1 := num_at (numbers := numbers) (k := kn) (j := 1) hk (by omega)
  have n2 := num_at (numbers := numbers) (k := kn) (j := 2) hk (by omega)
  have n3 := num_at (numbers := numbers) (k := kn) (j := 3) hk (by omega)
  rw [show nI 0 = (0 : Int32) from rfl] at n0
  rw [show nI 1 = (1 : Int32) from rfl] at n1
  rw [show nI 2 = (2 : Int32) from rfl] at n2
  rw [show nI 3 = (3 : Int32) from rfl] at n3
  rw [fX1_fillCells, n0, sb3, n1, sb3, n2, sb3, n3, sb3]
  exact p1
theorem setNumber_ok {numbers : Nat → Int32} {k j : Nat} (hk : k < 3) (hj : j < 5) (x : Int32) : fX1_setNumber numbers (nI k) (nI j) x = some (upd numbers (5 * k + j) x) := by
  rw [fX1_setNumber, if_neg (nI_nn (by omega)), lit_nI3, if_le_n hk (by omega), if_neg (nI_nn (by omega)), if_neg (lt_n' (x := 4) (a := 4) rfl rfl (by omega) (by omega)), lit_nI5, nI_mul, nI_add, chkN (by omega) (by omega), nI_clamp' (by omega)]
section
variable {c : Nat → Nat} {n : Nat} {b tp : Nat → Int32}
/-- a word and a number after it -/
theorem TX.named (X : TX c n b tp) {s e w lo hi : Nat} (hw : w < 13) (hhi : hi ≤ 999) (hlo : lo ≤ hi) {tk st af mat mbg mtk mv : Int32} (h : TK n b s e tk st af mat mbg mtk mv) (f p : Int32) : (∃ (v s1 s' e' : Nat) (tk1 af1 tk' af' mat' mtk' mv' : Int32), lo ≤ v ∧ v ≤ hi ∧ s < s' ∧ fX2_pass b (nI n) tk st af f p w = some (1, tk1, nI s1, af1, f, p) ∧ fX2_isNumberIn b (nI n) tk1 (nI s1) af1 f p (nI lo) (nI hi) = some (1, f, p) ∧ fX2_tokenValue b (nI n) (nI s1) af1 = some (nI v) ∧ fX2_next b (nI n) tk1 (nI s1) af1 = some (tk', nI s', af') ∧ fX8_readsNamed tp (nI n) f p mat mbg mtk mv 0 w (nI lo) (nI hi) = some (nI v, f, p, mat', nI s', mtk', mv', 0) ∧ TK n b s' e' tk' (nI s') af' mat' (nI s') mtk' mv') ∨ (∃ (tk1 st1 af1 k pl x mat' mbg' mtk' mv' : Int32), (fX2_pass b (nI n) tk st af f p w = some (0, tk1, st1, af1, k, pl) ∨ (fX2_pass b (nI n) tk st af f p w = some (1, tk1, st1, af1, f, p) ∧ fX2_isNumberIn b (nI n) tk1 st1 af1 f p (nI lo) (nI hi) = some (0, k, pl))) ∧ fX8_readsNamed tp (nI n) f p mat mbg mtk mv 0 w (nI lo) (nI hi) = some (x, k, pl, mat', mbg', mtk', mv', 1)) := by
  rcases X.pass hw h f p with ⟨s1, e1, tk1, af1, mat1, mtk1, mv1, y0, y1, y2, y3, y4⟩ | ⟨y1, y2, y3⟩
  · rcases X.num (lo := lo) (hi := hi) hhi hlo y4 f p with ⟨v, s', e', tk', af', mat', mtk', mv', z0, z1, z2, z3, z4, z5, z6, z7⟩ | ⟨k, x, z1, z2⟩
    · refine Or.inl ⟨v, s1, s', e', tk1, af1, tk', af', mat', mtk', mv', z0, z1, by omega, y1, z3, z4, z5, ?_, z7⟩
      rw [fX8_readsNamed, if_pos rfl, y2, sb3, if_neg i10, fX8_readsNamed_16, fX8_readsNamed_21, y3, sob7, z6]
      rfl
    · refine Or.inr ⟨tk1, nI s1, af1, k, nI s1, x, mat1, nI s1, mtk1, mv1, Or.inr ⟨y1, z1⟩, ?_⟩
      rw [fX8_readsNamed, if_pos rfl, y2, sb3, if_neg i10, fX8_readsNamed_16, fX8_readsNamed_21, y3, sob7, z2]
      rfl
  · refine Or.inr ⟨tk, st, af, 1, nI s, nI lo, mat, mbg, mtk, mv, Or.inl y1, ?_⟩
    rw [fX8_readsNamed, if_pos rfl, y2, sb3, if_pos rfl, fX8_readsNamed_21, y3, sob7, reads_bad]
    rfl
theorem TX.plateLine (X : TX c n b tp) {s e : Nat} {tk st af mat mbg mtk mv : Int32} (h : TK n b s e tk st af mat mbg mtk mv) (f p : Int32) (rooms mem : Nat → Int32) : (∃ (v s' e' : Nat) (tk' af' mat' mtk' mv' : Int32), 1 ≤ v ∧ v ≤ 8 ∧ s < s' ∧ fX2_readPlate rooms b (nI n) tk st af f p = some (1, upd rooms 0 (nI v), tk', nI s', af', f, p) ∧ fX8_readsPlate mem tp (nI n) f p mat mbg mtk mv 0 = some (upd mem 0 (nI v), f, p, mat', nI s', mtk', mv', 0) ∧ TK n b s' e' tk' (nI s') af' mat' (nI s') mtk' mv') ∨ (∃ (tk' st' af' k pl : Int32) (mem' : Nat → Int32) (mat' mbg' mtk' mv' : Int32), fX2_readPlate rooms b (nI n) tk st af f p = some (0, rooms, tk', st', af', k, pl) ∧ fX8_readsPlate mem tp (nI n) f p mat mbg mtk mv 0 = some (mem', k, pl, mat', mbg', mtk', mv', 1)) := by
  rcases X.pass (w := 0) (by omega) h f p with ⟨s1, e1, tk1, af1, mat1, mtk1, mv1, y0, y1, y2, y3, y4⟩ | ⟨y1, y2, y3⟩
  · rcases X.named (w := 1) (lo := 1) (hi := 8) (by omega) (by omega) (by omega) y4 f p with ⟨v, s2, s', e', tk2, af2, tk', af', mat', mtk', mv', z0, z1, z2, z3, z4, z5, z6, z7, z8⟩ | ⟨tk2, st2, af2, k, pl, x, mat', mbg', mtk', mv', z1, z2⟩
    · rw [show nI 1 = (1 : Int32) from rfl, show nI 8 = (8 : Int32) from rfl] at z4 z7
      refine Or.inl ⟨v, s', e', tk', af', mat', mtk', mv', z0, z1, by omega, ?_, ?_, z8⟩
      · rw [fX2_readPlate, y1, sob6, if_neg i10, z3, sob6, if_neg i10, z4, sob3, if_neg i10, z5, sb3, z6, sob3]
      · rw [fX8_readsPlate, y2, sb3, y3, sob7, z7, sob8]
    · rw [show nI 1 = (1 : Int32) from rfl, show nI 8 = (8 : Int32) from rfl] at z1 z2
      refine Or.inr ⟨tk2, st2, af2, k, pl, upd mem 0 x, mat', mbg', mtk', mv', ?_, ?_⟩
      · rcases z1 with z1 | ⟨z1, z3⟩
        · rw [fX2_readPlate, y1, sob6, if_neg i10, z1, sob6, if_pos rfl]
        · rw [fX2_readPlate, y1, sob6, if_neg i10, z1, sob6, if_neg i10, z3, sob3, if_pos rfl]
      · rw [fX8_readsPlate, y2, sb3, y3, sob7, z2, sob8]
  · refine Or.inr ⟨tk, st, af, 1, nI s, upd mem 0 1, mat, mbg, mtk, mv, ?_, ?_⟩
    · rw [fX2_readPlate, y1, sob6, if_pos rfl]
    · rw [fX8_readsPlate, y2, sb3, y3, sob7, named_bad, sob8]
theorem TX.number (X : TX c n b tp) {s e w lo hi k j : Nat} (hw : w < 13) (hhi : hi ≤ 999) (hlo : lo ≤ hi) (hk : k < 3) (hj : j < 5) {tk st af mat mbg mtk mv : Int32} (h : TK n b s e tk st af mat mbg mtk mv) (f p : Int32) (numbers : Nat → Int32) : (∃ (v s' e' : Nat) (tk' af' mat' mtk' mv' : Int32), lo ≤ v ∧ v ≤ hi ∧ s < s' ∧ fX2_readNumber numbers b (nI n) tk st af f p w (nI k) (nI j) (nI lo) (nI hi) = some (1, upd numbers (5 * k + j) (nI v), tk', nI s', af', f, p) ∧ fX8_readsNamed tp (nI n) f p mat mbg mtk mv 0 w (nI lo) (nI hi) = some (nI v, f, p, mat', nI s', mtk', mv', 0) ∧ TK n b s' e' tk' (nI s') af' mat' (nI s') mtk' mv') ∨ (∃ (tk1 st1 af1 k1 pl x mat' mbg' mtk' mv' : Int32), fX2_readNumber numbers b (nI n) tk st af f p w (nI k) (nI j) (nI lo) (nI hi) = some (0, numbers, tk1, st1, af1, k1, pl) ∧ fX8_readsNamed tp (nI n) f p mat mbg mtk mv 0 w (nI lo) (nI hi) = some (x, k1, pl, mat', mbg', mtk', mv', 1)) := by
  rcases X.named (w := w) (lo := lo) (hi := hi) hw hhi hlo h f p with ⟨v, s2, s', e', tk2, af2, tk', af', mat', mtk', mv', z0, z1, z2, z3, z4, z5, z6, z7, z8⟩ | ⟨tk2, st2, af2, k1, pl, x, mat', mbg', mtk', mv', z1, z2⟩
  · refine Or.inl ⟨v, s', e', tk', af', mat', mtk', mv', z0, z1, z2, ?_, z7, z8⟩
    rw [fX2_readNumber, z3, sob6, if_neg i10, z4, sob3, if_neg i10, z5, sb3, setNumber_ok hk hj, sbA, z6, sob3]
  · refine Or.inr ⟨tk2, st2, af2, k1, pl, x, mat', mbg', mtk', mv', ?_, z2⟩
    rcases z1 with z1 | ⟨z1, z3⟩
    · rw [fX2_readNumber, z1, sob6, if_pos rfl]
    · rw [fX2_readNumber, z1, sob6, if_neg i10, z3, sob3, if_pos rfl]
end
