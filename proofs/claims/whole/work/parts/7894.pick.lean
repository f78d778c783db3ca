/-! the class: a place among rows, the best, the nearest -/
section
variable {kn : Nat} {l : List Nat} {nb : Nat → Int} {O : List (List Nat)} {rn : Nat} {rw0 : Nat → Int64}
theorem RO.of_loop (h : RO nb kn l O rn rw0) (hR : R16 l) {m : Nat} (hm : m < 8) : ∀ (k n i : Nat), i + k = O.length → k < n → (∀ j, j < flt O (fun x => soB (ceQ nb) x m) i → ¬ (O.filter (fun x => soB (ceQ nb) x m)).getD j [] = l) → ∃ r, fX0_placeOf_5 n rn rw0 (nI O.length) (nI m) (pk l) (nI (flt O (fun x => soB (ceQ nb) x m) i)) (nI i) = some r ∧ rkP (O.filter (fun x => soB (ceQ nb) x m)) l (O.filter (fun x => soB (ceQ nb) x m)).length r := by
  have h1 := h.1
  have h2 := h.2.1
  intro k
  induction k with
  | zero =>
    intro n i hi hn hf
    obtain ⟨n, rfl, -⟩ := succ_of hn
    rw [show i = O.length by omega, flt_all] at hf
    exact ⟨-1, by rw [fX0_placeOf_5, if_le_y (by omega) (by omega)], Or.inr ⟨hf, rfl⟩⟩
  | succ k ih =>
    intro n i hi hn hf
    obtain ⟨n, rfl, hn'⟩ := succ_of hn
    have il : i < O.length := by omega
    have fs := flt_s (p := fun x => soB (ceQ nb) x m) il
    obtain ⟨g1, g2, g3⟩ := h.2.2.2 _ (getD_memL il)
    rw [fX0_placeOf_5, if_le_n (by omega) (by omega), h.among hm il, Option.bind_some, h.row il, Option.bind_some]
    simp only [fX0_placeOf_39, nI_s]
    cases c : soB (ceQ nb) (O.getD i []) m with
    | false =>
      rw [if_neg (by rw [c]; decide)] at fs
      simp only [Nat.add_zero] at fs
      rw [if_pos (show b32 false = 0 from rfl), ← fs]
      exact ih n (i + 1) (by omega) (by omega) (fun j hj => hf j (by omega))
    | true =>
      rw [if_pos c] at fs
      obtain ⟨a1, a2⟩ := flt_at (p := fun x => soB (ceQ nb) x m) il c
      rw [if_neg (show ¬ b32 true = 0 by decide)]
      by_cases e : O.getD i [] = l
      · rw [if_pos (show pk (O.getD i []) = pk l by rw [e])]
        exact ⟨_, rfl, Or.inl ⟨_, a1, by rw [a2, e], rfl⟩⟩
      · rw [if_neg (show ¬ pk (O.getD i []) = pk l from fun q => e (pk_inj g2.lt hR.lt g1 g2.2 q)), ← fs]
        refine ih n (i + 1) (by omega) (by omega) (fun j hj => ?_)
        by_cases q : j = flt O (fun x => soB (ceQ nb) x m) i
        · rw [q, a2]; exact e
        · exact hf j (by omega)
theorem RO.placeOf (h : RO nb kn l O rn rw0) (hR : R16 l) {m : Nat} (hm : m < 8) : ∃ r, fX0_placeOf rn rw0 (nI O.length) (nI m) (pk l) = some r ∧ rkP (O.filter (fun x => soB (ceQ nb) x m)) l (O.filter (fun x => soB (ceQ nb) x m)).length r := by
  have h1 := h.1
  have h2 := h.2.1
  exact h.of_loop hR hm O.length FU 0 (by omega) (FU_gt (by omega)) (fun j hj => absurd hj (by simp [flt]))
/-- where the class's best stands, and by what -/
def bAt (nb : Nat → Int) (v : List Nat → Int) (m : Nat) (O : List (List Nat)) (i : Nat) (b : Int32) (q : Int → Prop) : Prop := (bI v (O.filter (fun x => soB (ceQ nb) x m)) (flt O (fun x => soB (ceQ nb) x m) i) = 99999 ∧ b = -1) ∨ (∃ p, p < i ∧ b = nI p ∧ soB (ceQ nb) (O.getD p []) m = true ∧ bI v (O.filter (fun x => soB (ceQ nb) x m)) (flt O (fun x => soB (ceQ nb) x m) i) = flt O (fun x => soB (ceQ nb) x m) p ∧ q (v (O.getD p [])))
theorem bAt_no {nb : Nat → Int} {v : List Nat → Int} {m : Nat} {O : List (List Nat)} {i : Nat} {b : Int32} {q : Int → Prop} (h : bAt nb v m O i b q) (hi : i < O.length) (c : soB (ceQ nb) (O.getD i []) m = false) : bAt nb v m O (i + 1) b q := by
  have fs := flt_s (p := fun x => soB (ceQ nb) x m) hi
  rw [if_neg (by rw [c]; decide)] at fs
  simp only [Nat.add_zero] at fs
  unfold bAt at h ⊢
  rw [fs]
  rcases h with h | ⟨p, h1, h2⟩
  · exact Or.inl h
  · exact Or.inr ⟨p, by omega, h2⟩
theorem bAt_new {nb : Nat → Int} {v : List Nat → Int} {m : Nat} {O : List (List Nat)} {i : Nat} {q : Int → Prop} (hi : i < O.length) (c : soB (ceQ nb) (O.getD i []) m = true) (hb : bI v (O.filter (fun x => soB (ceQ nb) x m)) (flt O (fun x => soB (ceQ nb) x m) i + 1) = flt O (fun x => soB (ceQ nb) x m) i) (hq : q (v (O.getD i []))) : bAt nb v m O (i + 1) (nI i) q := by
  have fs := flt_s (p := fun x => soB (ceQ nb) x m) hi
  rw [if_pos c] at fs
  unfold bAt
  rw [fs]
  exact Or.inr ⟨i, by omega, rfl, c, hb, hq⟩
theorem bAt_old {nb : Nat → Int} {v : List Nat → Int} {m : Nat} {O : List (List Nat)} {i : Nat} {b : Int32} {q : Int → Prop} (h : bAt nb v m O i b q) (hi : i < O.length) (c : soB (ceQ nb) (O.getD i []) m = true) (h9 : ¬ bI v (O.filter (fun x => soB (ceQ nb) x m)) (flt O (fun x => soB (ceQ nb) x m) i) = 99999) (hb : bI v (O.filter (fun x => soB (ceQ nb) x m)) (flt O (fun x => soB (ceQ nb) x m) i + 1) = bI v (O.filter (fun x => soB (ceQ nb) x m)) (flt O (fun x => soB (ceQ nb) x m) i)) : bAt nb v m O (i + 1) b q := by
  have fs := flt_s (p := fun x => soB (ceQ nb) x m) hi
  rw [if_pos c] at fs
  unfold bAt at h ⊢
  rw [fs, hb]
  rcases h with ⟨h, -⟩ | ⟨p, h1, h2⟩
  · exact absurd h h9
  · exact Or.inr ⟨p, by omega, h2⟩
end
section
variable {numbers cells rows sizes rooms mem : Nat → Int32} {kn a : Nat} {l : List Nat} {rm : Nat} {nb : Nat → Int} {O : List (List Nat)} {rn : Nat} {rw0 : Nat → Int64}
theorem VW.best_loop (h : VW numbers cells rows sizes rooms mem kn a l rm nb) (hO : RO nb kn l O rn rw0) {m w : Nat} (hm : m < 8) (hw : w ≤ 3) : ∀ (k n i : Nat) (b : Int32) (mo : Int64), i + k = O.length → k < n → bAt nb (vB nb w) m O i b (fun z => mo = i64 z) → ∃ r mo2, fX0_bestIndex_9 n rn rw0 (nI O.length) (nI l.length) cells (nI m) (nI w) b mo (nI i) = some r ∧ bAt nb (vB nb w) m O O.length r (fun z => mo2 = i64 z) := by
  have h1 := hO.1
  have h2 := hO.2.1
  intro k
  induction k with
  | zero =>
    intro n i b mo hi hn hb
    obtain ⟨n, rfl, -⟩ := succ_of hn
    rw [show i = O.length by omega] at hb
    exact ⟨b, mo, by rw [fX0_bestIndex_9, if_le_y (by omega) (by omega)], hb⟩
  | succ k ih =>
    intro n i b mo hi hn hb
    obtain ⟨n, rfl, hn'⟩ := succ_of hn
    have il : i < O.length := by omega
    obtain ⟨g1, g2, g3⟩ := hO.2.2.2 _ (getD_memL il)
    have v1 := h.vB_bd hw g2 g3
    rw [fX0_bestIndex_9, if_le_n (by omega) (by omega), hO.among hm il, Option.bind_some, h.merit hO hw il, Option.bind_some]
    cases c : soB (ceQ nb) (O.getD i []) m with
    | false =>
      rw [if_pos (show b32 false = 0 from rfl), fX0_bestIndex_75, nI_s]
      exact ih n (i + 1) b mo (by omega) (by omega) (bAt_no hb il c)
    | true =>
      rw [if_neg (show ¬ b32 true = 0 by decide)]
      obtain ⟨a1, a2⟩ := flt_at (p := fun x => soB (ceQ nb) x m) il c
      have fl := flt_le O (fun x => soB (ceQ nb) x m) i
      have bl := bI_lt (vB nb w) (O.filter (fun x => soB (ceQ nb) x m)) (flt O (fun x => soB (ceQ nb) x m) i) (by omega)
      have st : ∃ r mo2, fX0_bestIndex_51 (fX0_bestIndex_9 n) rn rw0 (nI O.length) (nI l.length) cells (nI m) (nI w) b mo (nI i) (i64 (vB nb w (O.getD i []))) = some r ∧ bAt nb (vB nb w) m O O.length r (fun z => mo2 = i64 z) := by
        rw [fX0_bestIndex_51, fX0_bestIndex_67]
        simp only [fX0_bestIndex_75, nI_s]
        rcases id hb with ⟨q1, q2⟩ | ⟨p, q1, q2, q3, q4, q5⟩
        · rw [if_pos q2]
          exact ih n (i + 1) (nI i) _ (by omega) (by omega) (bAt_new il c (by rw [bI, if_pos q1]) rfl)
        · have p9 := flt_le O (fun x => soB (ceQ nb) x m) p
          obtain ⟨f1, f2, f3⟩ := hO.2.2.2 _ (getD_memL (show p < O.length by omega))
          have v2 := h.vB_bd hw f2 f3
          obtain ⟨a3, a4⟩ := flt_at (p := fun x => soB (ceQ nb) x m) (show p < O.length by omega) q3
          have h9 : ¬ bI (vB nb w) (O.filter (fun x => soB (ceQ nb) x m)) (flt O (fun x => soB (ceQ nb) x m) i) = 99999 := by omega
          rw [if_neg (by rw [q2]; exact m1_ne (by omega))]
          have hc : lg_cmp (i64 (vB nb w (O.getD i []))) mo ≤ 0 ↔ vB nb w (O.getD i []) ≤ vB nb w (O.getD p []) := by
            rw [lg_cmp_le, q5, i64_le ⟨by omega, by omega⟩ ⟨by omega, by omega⟩]
          by_cases d : vB nb w (O.getD i []) ≤ vB nb w (O.getD p [])
          · rw [if_pos (hc.mpr d)]
            exact ih n (i + 1) b mo (by omega) (by omega) (bAt_old hb il c h9 (by rw [bI, if_neg h9, if_pos (by rw [a2, q4, a4]; exact d)]))
          · rw [if_neg (fun q => d (hc.mp q))]
            exact ih n (i + 1) (nI i) _ (by omega) (by omega) (bAt_new il c (by rw [bI, if_neg h9, if_neg (by rw [a2, q4, a4]; exact d)]) rfl)
      by_cases e : w = 3
      · rw [if_pos (show nI w = 3 by rw [e]; rfl), if_pos e, ← i64_neg, Int.neg_neg]
        exact st
      · rw [if_neg (show ¬ nI w = 3 from nI_ne (b := 3) e (by omega) (by omega)), if_neg e]
        exact st
theorem VW.bestC (h : VW numbers cells rows sizes rooms mem kn a l rm nb) (hO : RO nb kn l O rn rw0) {m w : Nat} (hm : m < 8) (hw : w ≤ 3) : ∃ r mo2, fX0_bestIndex rn rw0 (nI O.length) (nI l.length) cells (nI m) (nI w) = some r ∧ bAt nb (vB nb w) m O O.length r (fun z => mo2 = i64 z) := by
  have h1 := hO.1
  have h2 := hO.2.1
  exact h.best_loop hO hm hw O.length FU 0 (-1) 0 (by omega) (FU_gt (by omega)) (Or.inl ⟨rfl, rfl⟩)
theorem VW.near_loop (h : VW numbers cells rows sizes rooms mem kn a l rm nb) (hO : RO nb kn l O rn rw0) {m : Nat} (hm : m < 8) : ∀ (k n i : Nat) (b mo : Int32), i + k = O.length → k < n → (b = -1 → mo = 9) → bAt nb (vN l) m O i b (fun z => mo = i32 (-z)) → ∃ r mo2, fX0_nearestIndex_9 n rn rw0 (nI O.length) (nI l.length) (nI m) (pk l) b mo (nI i) = some r ∧ bAt nb (vN l) m O O.length r (fun z => mo2 = i32 (-z)) := by
  have h1 := hO.1
  have h2 := hO.2.1
  have l8 := h.len
  intro k
  induction k with
  | zero =>
    intro n i b mo hi hn _ hb
    obtain ⟨n, rfl, -⟩ := succ_of hn
    rw [show i = O.length by omega] at hb
    exact ⟨b, mo, by rw [fX0_nearestIndex_9, if_le_y (by omega) (by omega)], hb⟩
  | succ k ih =>
    intro n i b mo hi hn h99 hb
    obtain ⟨n, rfl, hn'⟩ := succ_of hn
    have il : i < O.length := by omega
    obtain ⟨g1, g2, g3⟩ := hO.2.2.2 _ (getD_memL il)
    have u1 := unl_le (x := O.getD i []) (y := l) (by omega)
    rw [fX0_nearestIndex_9, if_le_n (by omega) (by omega), hO.among hm il, Option.bind_some, hO.row il, Option.bind_some, ← g1, unlikePlaces_pk g2 h.R g1.symm, Option.bind_some, g1]
    simp only [fX0_nearestIndex_58, nI_s]
    cases c : soB (ceQ nb) (O.getD i []) m with
    | false =>
      rw [if_pos (show b32 false = 0 from rfl)]
      exact ih n (i + 1) b mo (by omega) (by omega) h99 (bAt_no hb il c)
    | true =>
      rw [if_neg (show ¬ b32 true = 0 by decide)]
      obtain ⟨a1, a2⟩ := flt_at (p := fun x => soB (ceQ nb) x m) il c
      have fl := flt_le O (fun x => soB (ceQ nb) x m) i
      have new : bI (vN l) (O.filter (fun x => soB (ceQ nb) x m)) (flt O (fun x => soB (ceQ nb) x m) i + 1) = flt O (fun x => soB (ceQ nb) x m) i → ∃ r mo2, fX0_nearestIndex_9 n rn rw0 (nI O.length) (nI l.length) (nI m) (pk l) (nI i) (nI (unl (O.getD i []) l)) (nI (i + 1)) = some r ∧ bAt nb (vN l) m O O.length r (fun z => mo2 = i32 (-z)) := fun hq => ih n (i + 1) (nI i) _ (by omega) (by omega) (fun q => absurd q (m1_ne (by omega))) (bAt_new il c hq (by
          unfold vN
          rw [Int.neg_neg, unl_comm l, nI_i32]))
      rcases id hb with ⟨q1, q2⟩ | ⟨p, q1, q2, q3, q4, q5⟩
      · rw [h99 q2, show (9 : Int32) = nI 9 from rfl, if_le_n (by omega) (by omega)]
        exact new (by rw [bI, if_pos q1])
      · have p9 := flt_le O (fun x => soB (ceQ nb) x m) p
        obtain ⟨a3, a4⟩ := flt_at (p := fun x => soB (ceQ nb) x m) (show p < O.length by omega) q3
        have h9 : ¬ bI (vN l) (O.filter (fun x => soB (ceQ nb) x m)) (flt O (fun x => soB (ceQ nb) x m) i) = 99999 := by omega
        have u2 := unl_le (x := l) (y := O.getD p []) l8
        have em : mo = nI (unl l (O.getD p [])) := by rw [q5]; unfold vN; rw [Int.neg_neg, nI_i32]
        rw [em]
        by_cases d : unl l (O.getD p []) ≤ unl (O.getD i []) l
        · rw [if_le_y d (by omega), ← em]
          refine ih n (i + 1) b mo (by omega) (by omega) h99 (bAt_old hb il c h9 (by
            rw [bI, if_neg h9, if_pos]
            rw [a2, q4, a4]
            unfold vN
            rw [unl_comm l (O.getD i [])]
            omega))
        · rw [if_le_n (by omega) (by omega)]
          exact new (by
            rw [bI, if_neg h9, if_neg]
            rw [a2, q4, a4]
            unfold vN
            rw [unl_comm l (O.getD i [])]
            omega)
theorem VW.nearC (h : VW numbers cells rows sizes rooms mem kn a l rm nb) (hO : RO nb kn l O rn rw0) {m : Nat} (hm : m < 8) : ∃ r mo2, fX0_nearestIndex rn rw0 (nI O.length) (nI l.length) (nI m) (pk l) = some r ∧ bAt nb (vN l) m O O.length r (fun z => mo2 = i32 (-z)) := by
  have h1 := hO.1
  have h2 := hO.2.1
  exact h.near_loop hO hm O.length FU 0 (-1) 9 (by omega) (FU_gt (by omega)) (fun _ => rfl) (Or.inl ⟨rfl, rfl⟩)
end
theorem bec_loop {mem past fo left : Nat → Int32} {acted lost k0 k1 k2 k3 k4 : Int32} {k5 : Int64} {se : Nat → Int64} {un : Int32} {w : Nat} (hw : w ≤ 8) : ∀ (k n i : Nat) (row : Nat → Int32), i + k = w → k < n → (∀ p, p < i → row p = fo p) → ∃ row2, fX8_become_30 n mem acted past row (nI w) lost left k0 k1 k2 k3 k4 k5 fo se un (nI i) = fX8_become_56 mem acted past row2 (nI w) lost left k0 k1 k2 k3 k4 k5 fo se un ∧ ∀ p, p < w → row2 p = fo p := by
  intro k
  induction k with
  | zero =>
    intro n i row hi hn hf
    obtain ⟨n, rfl, -⟩ := succ_of hn
    exact ⟨row, by rw [fX8_become_30, if_le_y (by omega) (by omega)], fun p hp => hf p (by omega)⟩
  | succ k ih =>
    intro n i row hi hn hf
    obtain ⟨n, rfl, hn'⟩ := succ_of hn
    rw [fX8_become_30, if_le_n (by omega) (by omega), chkN (by omega) (by omega), chkN (by omega) (by omega), nI_clamp' (by omega), nI_s]
    exact ih n (i + 1) _ (by omega) (by omega) (fun p hp => by
      by_cases e : p = i
      · rw [e, upd_same]
      · rw [upd_ne _ _ e]; exact hf p (by omega))
