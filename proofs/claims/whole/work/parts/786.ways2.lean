/-! ways: explored, their goal, their steps -/
section
variable {numbers cells rows sizes rooms mem : Nat → Int32} {kn a : Nat} {l : List Nat} {rm : Nat} {nb : Nat → Int}
theorem VW.expC (h : VW numbers cells rows sizes rooms mem kn a l rm nb) {m d all : Nat} (hm : m < 8) (hd : d ≤ 3) (hal : all = 2 ^ l.length - 1) (dep0 : Nat → Int32) (al0 st0 : Int32) : ∃ dep2, fX6_explore dep0 al0 st0 cells rows sizes rooms (nI a) (nI m) (nI d) = some (dep2, nI all, nI d) ∧ ∀ x, x ≤ all → dep2 x = cv (ST (TH nb l rm m) all d x) := by
  have b9 := pow9 _ (hi_bit h.R)
  have ha : all < 256 := by omega
  obtain ⟨w, f1, f2⟩ := fill_loop (v := -1) 256 FU 0 dep0 (by omega) (FU_gt (by omega)) (fun x hx => absurd hx (by omega))
  have f3 : fJ7_fill_53178 256 dep0 (-1) = some w := by
    rw [fJ7_fill_53178]
    exact f1
  have e255 : imin (nI all) (256 - 1) = nI all := by
    rw [show (256 - 1 : Int32) = nI 255 from rfl, imin_nI (by omega) (by omega), Nat.min_eq_left (by omega)]
  rw [fX6_explore, h.all, Option.bind_some, f3, Option.bind_some, ← hal, e255, if_neg (nI_nn0 (by omega)), h.thinC (by omega) hm, Option.bind_some]
  cases t : TH nb l rm m all with
  | false =>
    refine ⟨w, by rw [if_pos (show b32 false = 0 from rfl)], fun x hx => ?_⟩
    rw [f2 x (by omega)]
    unfold ST
    rw [sv_far t _ (Nat.le_refl _) x (by omega) hx]
    rfl
  | true =>
    rw [if_neg (show ¬ b32 true = 0 by decide), chkN ha (by omega), nI_clamp' (by omega)]
    have hv : vl (TH nb l rm m) all d (sv (TH nb l rm m) all d 0) all = 0 := by
      unfold vl
      rw [if_neg (fun q => q.2 q.1), if_pos t, if_pos rfl]
    by_cases c : all = 0
    · have e : nI all - 1 = -1 := by rw [c]; decide
      obtain ⟨f, hf⟩ := FU_10
      refine ⟨upd w all 0, ?_, fun x hx => ?_⟩
      · rw [e, show fX6_explore_69 FU = fX6_explore_69 (f + 9 + 1) by rw [hf], fX6_explore_69, if_pos (by decide)]
      · rw [show x = all by omega, upd_same]
        unfold ST
        rw [show all + 1 = 0 + 1 by omega, sv_s, if_pos (by omega), show all - 0 = all by omega, hv]
        rfl
    · rw [show nI all - 1 = nI (all - 1) from nI_sub (b := 1) (by omega)]
      refine h.expC_loop hm hd hal ha (all - 1) 1 FU _ (by omega) (by omega) (FU_gt (by omega)) (fun x h1 h2 => ?_) (fun x h1 => ?_)
      · rw [show x = all by omega, upd_same, sv_s, if_pos (by omega), show all - 0 = all by omega, hv]
        rfl
      · rw [upd_ne _ _ (by omega)]; exact f2 x (by omega)
theorem VW.expM_loop (h : VW numbers cells rows sizes rooms mem kn a l rm nb) {m d all : Nat} (hm : m < 8) (hd : d ≤ 3) (hal : all = 2 ^ l.length - 1) (ha : all < 256) : ∀ (k j n : Nat) (row : Nat → Int32) (wide lost : Int32) (stp : Nat → Int32), k + j = all + 1 → k < n → (∀ x, all < x + j → x ≤ all → stp x = nI (sv (TH nb l rm m) all d j x)) → ∃ (row' : Nat → Int32) (wide' lost' : Int32) (stp2 : Nat → Int32), fX8_laysSteps_8 n mem row wide lost stp (nI m) (nI d) (nI all) (i32 ((k : Int) - 1)) = some (row', wide', lost', stp2) ∧ ∀ x, x ≤ all → stp2 x = nI (ST (TH nb l rm m) all d x) := by
  have b9 := pow9 _ (hi_bit h.R)
  intro k
  induction k with
  | zero =>
    intro j n row wide lost stp hj hn h3
    obtain ⟨n, rfl, -⟩ := succ_of hn
    refine ⟨row, wide, lost, stp, by rw [fX8_laysSteps_8, if_pos (by decide)], fun x hx => ?_⟩
    rw [h3 x (by omega) hx, show j = all + 1 by omega]
    rfl
  | succ s ih =>
    intro j n row wide lost stp hj hn h3
    obtain ⟨n, rfl, hn'⟩ := succ_of hn
    have e0 : i32 (((s + 1 : Nat) : Int) - 1) = nI s := by rw [nI_i32]; congr 1; omega
    have e1 : nI s + (-1 : Int32) = i32 ((s : Int) - 1) := by
      rw [nI_i32, show (-1 : Int32) = i32 (-1) from rfl, ← i32_add]
      congr 1
    have ok : okF (sv (TH nb l rm m) all d j) all s := fun x g1 g2 => sv_ok ha j (by omega) x (by omega) g2
    have fin : ∀ (row wide lost) (stp2 : Nat → Int32), stp2 s = nI (vl (TH nb l rm m) all d (sv (TH nb l rm m) all d j) s) → (∀ x, ¬ x = s → stp2 x = stp x) → ∃ (row' : Nat → Int32) (wide' lost' : Int32) (stp3 : Nat → Int32), fX8_laysSteps_129 (fX8_laysSteps_8 n) mem row wide lost stp2 (nI m) (nI d) (nI all) (nI s) = some (row', wide', lost', stp3) ∧ ∀ x, x ≤ all → stp3 x = nI (ST (TH nb l rm m) all d x) := by
      intro row wide lost stp2 q1 q2
      rw [fX8_laysSteps_129, e1]
      refine ih (j + 1) n row wide lost stp2 (by omega) (by omega) (fun x g1 g2 => ?_)
      rw [sv_s, show all - j = s by omega]
      by_cases e : x = s
      · rw [e, if_pos rfl]; exact q1
      · rw [if_neg e, q2 x e]; exact h3 x (by omega) g2
    have thin : ¬ (s = 0 ∧ ¬ all = 0) → ∃ (row' : Nat → Int32) (wide' lost' : Int32) (stp3 : Nat → Int32), fX8_laysSteps_31 (fX8_laysSteps_8 n) mem row wide lost (upd stp s 100) (nI m) (nI d) (nI all) (nI s) = some (row', wide', lost', stp3) ∧ ∀ x, x ≤ all → stp3 x = nI (ST (TH nb l rm m) all d x) := by
      intro hz
      obtain ⟨row', wide', m1⟩ := h.thinM (g := s) (by omega) hm row wide lost
      rw [fX8_laysSteps_31, m1, ob4_some]
      cases t : TH nb l rm m s with
      | false =>
        rw [if_pos (show b32 false = 0 from rfl)]
        refine fin _ _ _ _ ?_ (fun x hx => upd_ne _ _ hx)
        rw [upd_same]
        unfold vl
        rw [if_neg hz, t]
        rfl
      | true =>
        rw [if_neg (show ¬ b32 true = 0 by decide)]
        have go : ∀ (acc : Nat), acc ≤ 100 → vl (TH nb l rm m) all d (sv (TH nb l rm m) all d j) s = mnL (sv (TH nb l rm m) all d j) d s (all - s) (s + 1) acc → ∃ (row'' : Nat → Int32) (wide'' lost'' : Int32) (stp3 : Nat → Int32), fX8_laysSteps_62 (fX8_laysSteps_8 n) mem row' wide' 0 (upd stp s 100) (nI m) (nI d) (nI all) (nI s) (nI s) (nI acc) = some (row'', wide'', lost'', stp3) ∧ ∀ x, x ≤ all → stp3 x = nI (ST (TH nb l rm m) all d x) := by
          intro acc h100 hv
          obtain ⟨stp2, q1, q2, q3⟩ := mMin_loop (mem := mem) (row := row') (wide := wide') (lost := 0) (m := nI m) ha hd ok (by omega) (fX8_laysSteps_8 n) (all - s) FU (s + 1) acc (upd (upd stp s 100) s (nI acc)) (by omega) (by omega) (FU_gt (by omega)) h100 (by rw [upd_same]) (fun x g1 g2 => by rw [upd_ne _ _ (by omega), upd_ne _ _ (by omega)]; exact h3 x (by omega) g2)
          rw [fX8_laysSteps_62, chkN (by omega) (by omega), nI_clamp' (by omega), nI_s, q1]
          exact fin _ _ _ stp2 (by rw [q2, hv]) (fun x hx => by rw [q3 x hx, upd_ne _ _ hx, upd_ne _ _ hx])
        by_cases c : s = all
        · rw [if_eq_y c]
          refine go 0 (by omega) ?_
          unfold vl
          rw [if_neg hz, if_pos t, if_pos c, show all - s = 0 by omega, mnL]
        · rw [if_eq_n c (by omega) (by omega)]
          refine go 100 (by omega) ?_
          unfold vl
          rw [if_neg hz, if_pos t, if_neg c]
    rw [e0, fX8_laysSteps_8, if_neg (fun q => by have := (nI_lt' (b := 0) (by omega) (by omega)).mp q; omega), chkN (by omega) (by omega), nI_clamp' (by omega)]
    by_cases c : s = 0
    · rw [if_pos (by rw [c]; rfl)]
      by_cases c2 : all = 0
      · rw [if_pos (by rw [c2]; rfl)]
        exact thin (fun q => q.2 c2)
      · rw [if_neg (show ¬ nI all = 0 from fun q => c2 ((nI_inj (b := 0) (by omega) (by omega)).mp q))]
        refine fin _ _ _ _ ?_ (fun x hx => upd_ne _ _ hx)
        rw [upd_same]
        unfold vl
        rw [if_pos ⟨c, c2⟩]
        rfl
    · rw [if_neg (show ¬ nI s = 0 from fun q => c ((nI_inj (b := 0) (by omega) (by omega)).mp q))]
      exact thin (fun q => c q.1)
theorem VW.expM (h : VW numbers cells rows sizes rooms mem kn a l rm nb) {m d all : Nat} (hm : m < 8) (hd : d ≤ 3) (hal : all = 2 ^ l.length - 1) (row : Nat → Int32) (wide lost : Int32) (stp : Nat → Int32) : ∃ (row' : Nat → Int32) (wide' lost' : Int32) (stp2 : Nat → Int32), fX8_laysSteps mem row wide lost stp (nI m) (nI d) = some (row', wide', lost', stp2) ∧ ∀ x, x ≤ all → stp2 x = nI (ST (TH nb l rm m) all d x) := by
  have b9 := pow9 _ (hi_bit h.R)
  obtain ⟨row', wide', lost', stp2, e1, e2⟩ := h.expM_loop hm hd hal (by omega) (all + 1) 0 FU row wide lost stp (by omega) (FU_gt (by omega)) (fun x h1 h2 => by omega)
  refine ⟨row', wide', lost', stp2, ?_, e2⟩
  rw [fX8_laysSteps, h.mall, Option.bind_some, ← hal, ← e1, show i32 (((all + 1 : Nat) : Int) - 1) = nI all by rw [nI_i32]; congr 1; omega]
end
def glL (F : Nat → Nat) : Nat → Nat → Nat → Nat
  | 0, _, b => b
  | k + 1, s, b => glL F k (s + 1) (if F s = 100 then b else if b = 999 then s else if pop s < pop b then s else if pop s = pop b ∧ F s < F b then s else b)
def rJ (x : Nat) : Int32 := if x = 999 then -1 else nI x
theorem rJ_m1 {b : Nat} (h : b < 256 ∨ b = 999) : rJ b = -1 ↔ b = 999 := by
  unfold rJ
  by_cases c : b = 999
  · rw [if_pos c]; exact ⟨fun _ => c, fun _ => rfl⟩
  · rw [if_neg c]
    exact ⟨fun q => absurd q (m1_ne (by omega)), fun q => absurd q c⟩
theorem glL_lt {F : Nat → Nat} {N : Nat} : ∀ (k s b : Nat), s + k ≤ N → (b < N ∨ b = 999) → (b = 999 ∨ F b ≠ 100) → (glL F k s b < N ∨ glL F k s b = 999) ∧ (glL F k s b = 999 ∨ F (glL F k s b) ≠ 100)
  | 0, s, b, _, hb, hF => by rw [glL]; exact ⟨hb, hF⟩
  | k + 1, s, b, hs, hb, hF => by
    rw [glL]
    refine glL_lt k (s + 1) _ (by omega) ?_ ?_
    · repeat' split
      all_goals omega
    · by_cases c : F s = 100
      · rw [if_pos c]; exact hF
      · rw [if_neg c]
        repeat' split
        all_goals first | exact Or.inr c | exact hF
theorem sub_nI {x y : Nat} : nI x - nI y = i32 ((x : Int) - y) := by rw [nI_i32, nI_i32, ← i32_sub]
theorem i32_0 {z : Int} (h : sm z) : (i32 z = 0 ↔ z = 0) ∧ (0 < i32 z ↔ 0 < z) ∧ (i32 z < 0 ↔ z < 0) := by
  have e : (0 : Int32) = i32 0 := rfl
  rw [e, i32_eq h ⟨by omega, by omega⟩, i32_lt ⟨by omega, by omega⟩ h, i32_lt h ⟨by omega, by omega⟩]
  exact ⟨Iff.rfl, Iff.rfl, Iff.rfl⟩
theorem goal_loop {dep stp mem : Nat → Int32} {F : Nat → Nat} {all : Nat} (ha : all < 256) (hF : ∀ x, x ≤ all → F x = 100 ∨ F x + pop x ≤ 8) (h1 : ∀ x, x ≤ all → dep x = cv (F x)) (h2 : ∀ x, x ≤ all → stp x = nI (F x)) (hb : fX8_allBits mem = some (nI all)) : ∀ (k n1 n2 s b : Nat), s + k = all + 1 → k < n1 → k < n2 → (b < s ∨ b = 999) → (b = 999 ∨ F b ≠ 100) → fX6_goal_4 n1 dep (nI all) (rJ b) (nI s) = some (rJ (glL F k s b)) ∧ fX8_goal_4 n2 mem stp (rJ b) (nI s) = some (rJ (glL F k s b)) := by
  intro k
  induction k with
  | zero =>
    intro n1 n2 s b hs g1 g2 hb' hb2
    obtain ⟨n1, rfl, -⟩ := succ_of g1
    obtain ⟨n2, rfl, -⟩ := succ_of g2
    rw [fX6_goal_4, if_lt_y (by omega) (by omega), fX8_goal_4, hb, Option.bind_some, if_lt_y (by omega) (by omega), glL]
    exact ⟨rfl, rfl⟩
  | succ k ih =>
    intro n1 n2 s b hs g1 g2 hb' hb2
    obtain ⟨n1, rfl, g1'⟩ := succ_of g1
    obtain ⟨n2, rfl, g2'⟩ := succ_of g2
    have fs := hF s (by omega)
    have es : nI s = rJ s := by unfold rJ; rw [if_neg (by omega)]
    rw [fX6_goal_4, if_lt_n (by omega) (by omega), cSteps (by omega), Option.bind_some, h1 s (by omega), fX8_goal_4, hb, Option.bind_some, if_lt_n (by omega) (by omega), chkN (by omega) (by omega), nI_clamp' (by omega), h2 s (by omega), show (100 : Int32) = nI 100 from rfl, glL]
    simp only [fX6_goal_35, fX6_goal_37, fX8_goal_44, fX8_goal_68, fX8_goal_72, fX8_goal_73, fX8_goal_74, nI_s]
    by_cases c : F s = 100
    · rw [if_pos ((cv_m1 (by omega)).mpr c), if_lt_n (by omega) (by omega), if_pos c]
      exact ih n1 n2 (s + 1) b (by omega) (by omega) (by omega) (by omega) hb2
    · rw [if_neg (fun q => c ((cv_m1 (by omega)).mp q)), if_lt_y (by omega) (by omega), if_neg c]
      by_cases d : b = 999
      · rw [if_pos ((rJ_m1 (by omega)).mpr d), if_pos ((rJ_m1 (by omega)).mpr d), if_pos (show (-1 : Int32) < 0 by decide), if_pos d, es]
        exact ih n1 n2 (s + 1) s (by omega) (by omega) (by omega) (by omega) (Or.inr c)
      · have eb : rJ b = nI b := by unfold rJ; rw [if_neg d]
        have fb := hF b (by omega)
        have p1 := pop_le8 s
        have p2 := pop_le8 b
        have z1 := i32_0 (z := (pop b : Int) - pop s) ⟨by omega, by omega⟩
        have z2 := i32_0 (z := (pop s : Int) - pop b) ⟨by omega, by omega⟩
        have cb : cv (F b) = nI (F b) := by unfold cv; rw [if_neg (by omega)]
        have cs : cv (F s) = nI (F s) := by unfold cv; rw [if_neg c]
        rw [if_neg (fun q => d ((rJ_m1 (by omega)).mp q)), if_neg (fun q => d ((rJ_m1 (by omega)).mp q)), if_neg d, eb, fX6_isNearerGoal, bc s (by omega), bc b (by omega), cSteps (by omega), cSteps (by omega), Option.bind_some, Option.bind_some, h1 s (by omega), h1 b (by omega), cs, cb, sub_nI, sub_nI, chkN (by omega) (by omega), chkN (by omega) (by omega), nI_clamp' (by omega), nI_clamp' (by omega), h2 b (by omega), h2 s (by omega)]
        have r1 := ih n1 n2 (s + 1) s (by omega) (by omega) (by omega) (by omega) (Or.inr c)
        have r2 := ih n1 n2 (s + 1) b (by omega) (by omega) (by omega) (by omega) hb2
        rw [← es] at r1
        rw [eb] at r2
        by_cases e1 : pop s < pop b
        · rw [if_pos (z1.2.1.mpr (by omega)), if_pos (z2.2.2.mpr (by omega)), if_pos e1, Option.bind_some, if_neg (by decide)]
          exact r1
        · rw [if_neg (show ¬ 0 < i32 ((pop b : Int) - pop s) from fun q => by have := z1.2.1.mp q; omega), if_neg (show ¬ i32 ((pop s : Int) - pop b) < 0 from fun q => by have := z2.2.2.mp q; omega), if_neg e1]
          by_cases e2 : pop s = pop b
          · rw [if_pos (z1.1.mpr (by omega)), if_pos (z2.1.mpr (by omega))]
            by_cases e3 : F s < F b
            · rw [if_le_n e3 (by omega), if_le_n e3 (by omega), if_pos ⟨e2, e3⟩, Option.bind_some, if_neg (by decide)]
              exact r1
            · rw [if_le_y (by omega) (by omega), if_le_y (by omega) (by omega), if_neg (fun q => e3 q.2), Option.bind_some, if_pos rfl]
              exact r2
          · rw [if_neg (show ¬ i32 ((pop b : Int) - pop s) = 0 from fun q => by have := z1.1.mp q; omega), if_neg (show ¬ i32 ((pop s : Int) - pop b) = 0 from fun q => by have := z2.1.mp q; omega), if_neg (show ¬ (pop s = pop b ∧ F s < F b) from fun q => e2 q.1), Option.bind_some, if_pos rfl]
            exact r2
theorem cvn {n : Nat} (h : ¬ n = 100) : cv n = nI n := if_neg h
/-- the next plate on the way -/
theorem ahead_loop {dep stp row : Nat → Int32} {F : Nat → Nat} {all d s : Nat} {wide lost v3 : Int32} (ha : all < 256) (hd : d ≤ 3) (hF : ∀ x, x ≤ all → F x = 100 ∨ F x + pop x ≤ 8) (h1 : ∀ x, x ≤ all → dep x = cv (F x)) (h2 : ∀ x, x ≤ all → stp x = nI (F x)) (hs : s ≤ all) (h0 : 0 < F s) (h9 : F s < 100) (k47 : (Nat → Int32) → Int32 → Int32 → (Nat → Int32) → Int32 → Int32 → Int32 → Option (Int32 × (Nat → Int32) × Int32 × Int32 × (Nat → Int32))) : ∀ (k n1 n2 f : Nat), s < f → k < n1 → k < n2 → (∃ g, f ≤ g ∧ g ≤ f + k ∧ g ≤ all ∧ stpB d s g = true ∧ F g + 1 = F s) → ∃ g, s < g ∧ g ≤ all ∧ F g + 1 = F s ∧ fX6_leastAhead_4 n1 dep (nI all) (nI d) (nI s) (nI f) = some (nI g) ∧ fX8_step_64 k47 n2 row wide lost stp (nI d) v3 (nI s) (nI f) = k47 row wide lost stp (nI d) v3 (nI g) := by
  intro k
  induction k with
  | zero =>
    intro n1 n2 f hf g1 g2 hg
    obtain ⟨g, a1, a2, a3, a4, a5⟩ := hg
    obtain ⟨n1, rfl, -⟩ := succ_of g1
    obtain ⟨n2, rfl, -⟩ := succ_of g2
    have e : g = f := by omega
    subst e
    have fs := hF s hs
    have fg := hF g a3
    refine ⟨g, hf, a3, a5, ?_, ?_⟩
    · rw [fX6_leastAhead_4, if_lt_n (by omega) (by omega), cLeads hd (by omega) (by omega) (by omega) (h1 g a3), Option.bind_some, a4, decide_eq_true (show ¬ F g = 100 by omega), if_neg (by decide), cSteps (by omega), Option.bind_some, cSteps (by omega), Option.bind_some, h1 g a3, h1 s hs, cvn (show ¬ F g = 100 by omega), cvn (show ¬ F s = 100 by omega), lit_nI1, nI_sub (by omega), if_eq_y (by omega)]
    · rw [fX8_step_64, chkN (by omega) (by omega), chkN (by omega) (by omega), nI_clamp' (by omega), nI_clamp' (by omega), h2 g a3, h2 s hs, show nI (F s) - 1 = nI (F s - 1) from nI_sub (b := 1) (by omega), if_eq_y (by omega), mStep hd (by omega) (by omega) (by omega), a4, if_neg (show ¬ b32 true = 0 by decide), fX8_step_101]
  | succ k ih =>
    intro n1 n2 f hf g1 g2 hg
    obtain ⟨g, a1, a2, a3, a4, a5⟩ := hg
    obtain ⟨n1, rfl, g1'⟩ := succ_of g1
    obtain ⟨n2, rfl, g2'⟩ := succ_of g2
    have fs := hF s hs
    have ff := hF f (by omega)
    have csv : cv (F s) = nI (F s) := by unfold cv; rw [if_neg (by omega)]
    rw [fX6_leastAhead_4, if_lt_n (by omega) (by omega), cLeads hd (by omega) (by omega) (by omega) (h1 f (by omega)), Option.bind_some, cSteps (by omega), Option.bind_some, cSteps (by omega), Option.bind_some, h1 f (by omega), h1 s hs, csv, fX8_step_64, chkN (by omega) (by omega), chkN (by omega) (by omega), nI_clamp' (by omega), nI_clamp' (by omega), h2 f (by omega), h2 s hs, show nI (F s) - 1 = nI (F s - 1) from nI_sub (b := 1) (by omega), mStep hd (by omega) (by omega) (by omega)]
    simp only [fX6_leastAhead_38, fX8_step_95, fX8_step_101, nI_s]
    by_cases c : stpB d s f = true ∧ F f + 1 = F s
    · refine ⟨f, hf, by omega, c.2, ?_, ?_⟩
      · rw [c.1, decide_eq_true (show ¬ F f = 100 by omega), if_neg (by decide), cvn (show ¬ F f = 100 by omega), if_eq_y (by omega)]
      · rw [if_eq_y (by omega), c.1, if_neg (show ¬ b32 true = 0 by decide)]
    · have nx := ih n1 n2 (f + 1) (by omega) (by omega) (by omega) ⟨g, by
        by_cases e : g = f
        · subst e; exact absurd ⟨a4, a5⟩ c
        · omega, by omega, a3, a4, a5⟩
      obtain ⟨q, b1, b2, b3, b4, b5⟩ := nx
      refine ⟨q, b1, b2, b3, ?_, ?_⟩
      · rw [← b4]
        by_cases e1 : stpB d s f = true
        · have e3 : ¬ F f + 1 = F s := fun q => c ⟨e1, q⟩
          rw [e1, Bool.true_and]
          by_cases e2 : F f = 100
          · rw [decide_eq_false (show ¬ ¬ F f = 100 from fun q => q e2), if_pos (show b32 false = 0 from rfl)]
          · rw [decide_eq_true e2, if_neg (show ¬ b32 true = 0 by decide), cvn e2, if_eq_n (by omega) (by omega) (by omega)]
        · rw [Bool.eq_false_iff.mpr e1, Bool.false_and, if_pos (show b32 false = 0 from rfl)]
      · rw [← b5]
        by_cases e1 : stpB d s f = true
        · have e3 : ¬ F f + 1 = F s := fun q => c ⟨e1, q⟩
          rw [if_eq_n (by omega) (by omega) (by omega)]
        · rw [Bool.eq_false_iff.mpr e1, if_pos (show b32 false = 0 from rfl)]
          split <;> rfl
theorem way_loop {dep stp row : Nat → Int32} {th : Nat → Bool} {all d : Nat} {wide lost : Int32} {i : Nat} (ha : all < 256) (hd : d ≤ 3) (h1 : ∀ x, x ≤ all → dep x = cv (ST th all d x)) (h2 : ∀ x, x ≤ all → stp x = nI (ST th all d x)) : ∀ (k n1 n2 s : Nat), s ≤ all → ST th all d s = i + k → ST th all d s < 100 → k < n1 → k < n2 → ∃ r, fX6_onTheWay_27 n1 dep (nI all) (nI d) (nI i) (nI s) (nI (i + k)) = some r ∧ fX8_step_47 n2 row wide lost stp (nI d) (nI i) (nI s) = some (r, row, wide, lost, stp) := by
  intro k
  induction k with
  | zero =>
    intro n1 n2 s hs hk h9 g1 g2
    obtain ⟨n1, rfl, -⟩ := succ_of g1
    obtain ⟨n2, rfl, -⟩ := succ_of g2
    exact ⟨nI s, by rw [fX6_onTheWay_27, if_le_y (by omega) (by omega)], by rw [fX8_step_47, chkN (by omega) (by omega), nI_clamp' (by omega), h2 s hs, if_le_y (by omega) (by omega)]⟩
  | succ k ih =>
    intro n1 n2 s hs hk h9 g1 g2
    obtain ⟨n1, rfl, g1'⟩ := succ_of g1
    obtain ⟨n2, rfl, g2'⟩ := succ_of g2
    obtain ⟨f, a1, a2, a3, a4⟩ := ST_next ha hs (by omega) h9
    obtain ⟨g, b1, b2, b3, b4, b5⟩ := ahead_loop (row := row) (wide := wide) (lost := lost) (v3 := nI i) ha hd (fun x hx => ST_ok ha hx) h1 h2 hs (by omega) h9 (fX8_step_47 n2) (f - (s + 1)) FU FU (s + 1) (by omega) (FU_gt (by omega)) (FU_gt (by omega)) ⟨f, by omega, by omega, a2, a3, a4⟩
    obtain ⟨r, c1, c2⟩ := ih n1 n2 g b2 (by omega) (by omega) (by omega) (by omega)
    have e1 : nI (i + (k + 1)) + (-1 : Int32) = nI (i + k) := by
      rw [nI_i32, nI_i32, show (-1 : Int32) = i32 (-1) from rfl, ← i32_add]
      congr 1
      omega
    refine ⟨r, ?_, ?_⟩
    · rw [fX6_onTheWay_27, if_le_n (by omega) (by omega), fX6_leastAhead, nI_s, b4, Option.bind_some, e1]
      exact c1
    · rw [fX8_step_47, chkN (by omega) (by omega), nI_clamp' (by omega), h2 s hs, if_le_n (by omega) (by omega), nI_s, b5]
      exact c2
theorem stride_y {x : Int32} (h : 1 ≤ x.toInt ∧ x.toInt ≤ 3) : fX7_isStride x = 1 ∧ ∃ d : Nat, 1 ≤ d ∧ d ≤ 3 ∧ x = nI d := by
  obtain ⟨d, rfl, hd, -⟩ := int_nat (x := x) (by omega)
  refine ⟨?_, d, by omega, by omega, rfl⟩
  rw [fX7_isStride, if_lt1_n (by omega) (by omega), lit_nI3, if_lt_n (by omega) (by omega)]
theorem stride_n {x : Int32} (h : ¬ (1 ≤ x.toInt ∧ x.toInt ≤ 3)) : fX7_isStride x = 0 := by
  rw [fX7_isStride]
  by_cases c : x.toInt < 1
  · rw [if_pos (show x < 1 from (lt_nI (n := 1) (by omega)).mpr c)]
  · rw [if_neg (show ¬ x < 1 from fun q => c ((lt_nI (n := 1) (by omega)).mp q)), if_pos]
    rw [Int32.lt_iff_toInt_lt, show (3 : Int32).toInt = 3 from rfl]
    omega
theorem way_y {mem : Nat → Int32} {x y : Int32} (hi : fX8_is mem = some 1) (h : 0 ≤ x.toInt ∧ x.toInt ≤ 7) (h2 : 1 ≤ y.toInt ∧ y.toInt ≤ 3) : fX8_isWay mem x y = some 1 := by
  rw [fX8_isWay, asked_y hi h, Option.bind_some, if_neg (by decide), mIn13, if_pos h2, if_neg (by decide)]
theorem way_n {mem : Nat → Int32} {x y : Int32} (hi : fX8_is mem = some 1) (h : ¬ ((0 ≤ x.toInt ∧ x.toInt ≤ 7) ∧ (1 ≤ y.toInt ∧ y.toInt ≤ 3))) : fX8_isWay mem x y = some 0 := by
  rw [fX8_isWay]
  by_cases c : 0 ≤ x.toInt ∧ x.toInt ≤ 7
  · rw [asked_y hi c, Option.bind_some, if_neg (by decide), mIn13, if_neg (fun q => h ⟨c, q⟩), if_pos rfl]
  · rw [asked_n hi c, Option.bind_some, if_pos rfl]
theorem way_0 {mem : Nat → Int32} {x y : Int32} (hi : fX8_is mem = some 0) : fX8_isWay mem x y = some 0 := by
  rw [fX8_isWay, asked_0 hi, Option.bind_some, if_pos rfl]
