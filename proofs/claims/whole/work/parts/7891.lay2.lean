/-! the class lays all rows: the recursion; what it prepares -/
theorem sorted_head {t : Nat} {r : List Nat} (h : (t :: r).Pairwise (· ≤ ·)) : ∀ x ∈ r, t ≤ x := (List.pairwise_cons.mp h).1
theorem unt_drop_s {P : List Nat} {g k : Nat} (hk : k < P.length) : unt g k (P.drop k) = if g.testBit k then unt g (k + 1) (P.drop (k + 1)) else P.getD k 0 :: unt g (k + 1) (P.drop (k + 1)) := by
  rw [dropD hk, unt]
theorem sorted_drop {P : List Nat} (h : P.Pairwise (· ≤ ·)) {k : Nat} (hk : k < P.length) : ∀ x ∈ P.drop (k + 1), P.getD k 0 ≤ x := by
  have := h.drop (i := k)
  rw [dropD hk] at this
  exact sorted_head this
theorem ofl_from {α : Type} {F : Nat → List α} {b t : Nat} (hb : b ≤ t) (ht : t < 12) (h : ∀ s, b ≤ s → s < t → F s = []) : ofl F (12 - b) b = F t ++ ofl F (12 - (t + 1)) (t + 1) := by
  rw [show 12 - b = (t - b) + ((12 - (t + 1)) + 1) by omega, ofl_split, ofl_nil (t - b) b (fun s h1 h2 => h s h1 (by omega)), List.nil_append, show b + (t - b) = t by omega, ofl]
theorem or_lt256 {g k : Nat} (hg : g < 256) (hk : k < 8) : g ||| 2 ^ k < 256 := Nat.or_lt_two_pow (n := 8) hg (Nat.pow_lt_pow_right (by decide) hk)
section
variable {numbers cells rows sizes rooms mem : Nat → Int32} {kn a : Nat} {l : List Nat} {rm : Nat} {nb : Nat → Int}
theorem VW.layA (h : VW numbers cells rows sizes rooms mem kn a l rm nb) {P : List Nat} (hPR : R16 P) (hPs : P.Pairwise (· ≤ ·)) (hPt : ∀ t ∈ P, t < 4 * kn) {O : List (List Nat)} {rn : Nat} (hrn : O.length ≤ rn) (hr4 : rn ≤ 40320) : ∀ (d dep : Nat) (cnt : Nat → Nat) (g : Nat) (pre : List Nat) (rw0 : Nat → Int64) (n : Nat) (rest : List (List Nat)), pre.length + d = P.length → d < dep → R16 pre.reverse → (∀ t ∈ pre, t < 4 * kn) → g < 256 → (∀ t, cnt t = (unt g 0 P).count t) → O.drop n = ords rm d cnt pre ++ rest → (∀ j, j < n → rw0 j = enc (ceQ nb) (O.getD j [])) → ∃ rw2, fX0_lay dep rn rw0 (nI n) (pk P) (nI P.length) (nI rm) cells (nI pre.length) (pk pre.reverse) (nI (runTop pre)) (nI g) (i32 (tot (ceQ nb) P.length 1 0 0 pre.reverse)) (i32 (tot (ceQ nb) P.length 2 2 0 pre.reverse)) = some (rw2, nI (n + (ords rm d cnt pre).length)) ∧ ∀ j, j < n + (ords rm d cnt pre).length → rw2 j = enc (ceQ nb) (O.getD j []) := by
  have l8 := hPR.2
  have k3 := h.kn3
  have r8 := h.rm8
  intro d
  induction d with
  | zero =>
    intro dep cnt g pre rw0 n rest hd hdep hR hp hg hc hO hrows
    obtain ⟨dep, rfl, -⟩ := succ_of hdep
    have eL : P.length = pre.reverse.length := by rw [List.length_reverse]; omega
    have p3 : ∀ t ∈ pre.reverse, t < 4 * kn := fun t ht => hp t (List.mem_reverse.mp ht)
    rw [ords] at hO ⊢
    obtain ⟨g1, g2, g3⟩ := drop_getD hO
    have sh := h.shapeOf hR p3
    rw [fX0_lay, fX0_lay_e, if_le_y (show P.length ≤ pre.length by omega) (by omega), fX0_lay_14, eL, sh, Option.bind_some, fX0_store, if_neg (nI_nn0 (by omega)), if_le_n (by omega) (by omega), chkN (by omega) (by omega), nI_clamp' (by omega), enc_store hR (shp_lt _ _), ob2_some, nI_s]
    refine ⟨_, rfl, fun j hj => ?_⟩
    by_cases e : j = n
    · rw [e, updL_same, g2, enc_lN]
    · rw [updL_ne _ _ e]
      exact hrows j (by simp at hj; omega)
  | succ d ih =>
    intro dep cnt g pre rw0 n rest hd hdep hR hp hg hc hO hrows
    obtain ⟨dep, rfl, hdep'⟩ := succ_of hdep
    have rt := runTop_le pre
    have hpl : pre.length < 8 := by omega
    have farE : fX3_farOf (nI pre.length) (nI P.length) = i32 (far P.length pre.length) := mFar P.length pre.length
    have fb : -7 ≤ far P.length pre.length ∧ far P.length pre.length ≤ 7 := by unfold far; omega
    have thE : fX3_thickOf (i32 (far P.length pre.length)) = i32 (wgt 2 (far P.length pre.length)) := cThick _
    -- what a type gives
    have lp : ∀ (be : Int32), (be = if pre.length = 0 then -1 else nI (pre.reverse.getD (pre.length - 1) 0 % 4)) → ∀ (k fu i b tr : Nat) (rw0 : Nat → Int64) (n : Nat) (rest : List (List Nat)), i + k = P.length → k < fu → b ≤ 12 → (tr = 99 ∨ tr < b) → (∀ t ∈ unt g i (P.drop i), t < b → (t = tr ∨ rm < runTop (t :: pre))) → O.drop n = ofl (fun t => if t ∈ unt g i (P.drop i) then (if cnt t = 0 ∨ rm < runTop (t :: pre) then [] else ords rm d (dec cnt t) (t :: pre)) else []) (12 - b) b ++ rest → (∀ j, j < n → rw0 j = enc (ceQ nb) (O.getD j [])) → ∃ rw2, fX0_lay_70 (fX0_lay dep) fu rn rw0 (nI n) (pk P) (nI P.length) (nI rm) cells (nI pre.length) (pk pre.reverse) (nI (runTop pre)) (nI g) (i32 (tot (ceQ nb) P.length 1 0 0 pre.reverse)) (i32 (tot (ceQ nb) P.length 2 2 0 pre.reverse)) be (i32 (far P.length pre.length)) (i32 (wgt 2 (far P.length pre.length))) (rI tr) (nI i) = some (rw2, nI (n + (ofl (fun t => if t ∈ unt g i (P.drop i) then (if cnt t = 0 ∨ rm < runTop (t :: pre) then [] else ords rm d (dec cnt t) (t :: pre)) else []) (12 - b) b).length)) ∧ ∀ j, j < n + (ofl (fun t => if t ∈ unt g i (P.drop i) then (if cnt t = 0 ∨ rm < runTop (t :: pre) then [] else ords rm d (dec cnt t) (t :: pre)) else []) (12 - b) b).length → rw2 j = enc (ceQ nb) (O.getD j []) := by
      intro be hbe k
      induction k with
      | zero =>
        intro fu i b tr rw0 n rest hi hfu hb htr hcond hO hrows
        obtain ⟨fu, rfl, -⟩ := succ_of hfu
        have e : unt g i (P.drop i) = [] := by rw [List.drop_eq_nil_of_le (by omega)]; rfl
        rw [e, ofl_nil (12 - b) b (fun s _ _ => by simp)] at hO ⊢
        exact ⟨rw0, by rw [fX0_lay_70, if_le_y (by omega) (by omega)]; rfl, hrows⟩
      | succ k ihk =>
        intro fu i b tr rw0 n rest hi hfu hb htr hcond hO hrows
        obtain ⟨fu, rfl, hfu'⟩ := succ_of hfu
        have il : i < P.length := by omega
        have us := unt_drop_s (g := g) il
        have t12 := getD_lt12 hPR i
        have tkn := hPt _ (getD_mem il)
        have sd := sorted_drop hPs il
        rw [fX0_lay_70, if_le_n (by omega) (by omega), bitAt g hg i (by omega)]
        by_cases cb : g.testBit i = true
        · rw [if_pos cb] at us
          rw [us] at hcond hO ⊢
          rw [if_pos cb, if_neg (by decide), fX0_lay_207, nI_s]
          exact ihk fu (i + 1) b tr rw0 n rest (by omega) (by omega) hb htr hcond hO hrows
        · have cb' : g.testBit i = false := Bool.eq_false_iff.mpr cb
          rw [if_neg cb] at us
          rw [us] at hcond hO ⊢
          rw [if_neg cb, if_pos rfl, lit_nI4, nI_mul, pk_at hPR.lt (by omega), (ov_c _ t12).1]
          -- names
          generalize ht : P.getD i 0 = t at *
          have rl := runTop_le (t :: pre)
          rw [List.length_cons] at rl
          have rcs := runTop_cons t pre
          have geR : ∀ x ∈ unt g (i + 1) (P.drop (i + 1)), t ≤ x := fun x hx => sd x (unt_mem _ _ _ _ hx)
          have cpos : ¬ cnt t = 0 := by
            rw [hc t]
            have m1 : t ∈ unt g 0 P := by
              have key : ∀ (Q : List Nat) (s : Nat), s ≤ i → i < s + Q.length → Q.getD (i - s) 0 = t → t ∈ unt g s Q := by
                intro Q
                induction Q with
                | nil => intro s h1 h2 _; simp at h2; omega
                | cons q Q ihQ =>
                  intro s h1 h2 h3
                  unfold unt
                  by_cases e : i = s
                  · subst e
                    rw [cb', if_neg (by decide)]
                    rw [Nat.sub_self] at h3
                    have h4 : q = t := h3
                    rw [h4]; exact List.mem_cons_self
                  · have h5 := ihQ (s + 1) (by omega) (by simp at h2; omega) (by rw [← h3, show i - s = (i - (s + 1)) + 1 by omega]; rfl)
                    by_cases c : g.testBit s = true
                    · rw [if_pos c]; exact h5
                    · rw [if_neg c]; exact List.mem_cons_of_mem _ h5
              exact key P 0 (by omega) (by omega) ht
            have := List.count_pos_iff.mpr m1
            omega
          -- membership beyond t's own
          have memS : ∀ s, ¬ s = t → (s ∈ t :: unt g (i + 1) (P.drop (i + 1)) ↔ s ∈ unt g (i + 1) (P.drop (i + 1))) := fun s hs => by
            rw [List.mem_cons]
            exact ⟨fun q => q.resolve_left hs, Or.inr⟩
          have same : t < b → ofl (fun s => if s ∈ t :: unt g (i + 1) (P.drop (i + 1)) then (if cnt s = 0 ∨ rm < runTop (s :: pre) then [] else ords rm d (dec cnt s) (s :: pre)) else []) (12 - b) b = ofl (fun s => if s ∈ unt g (i + 1) (P.drop (i + 1)) then (if cnt s = 0 ∨ rm < runTop (s :: pre) then [] else ords rm d (dec cnt s) (s :: pre)) else []) (12 - b) b := fun htb => ofl_congr _ _ (fun s h1 _ => by
              have := memS s (by omega)
              by_cases c : s ∈ unt g (i + 1) (P.drop (i + 1))
              · rw [if_pos c, if_pos (this.mpr c)]
              · rw [if_neg c, if_neg (fun q => c (this.mp q))])
          have next : b ≤ t → ofl (fun s => if s ∈ t :: unt g (i + 1) (P.drop (i + 1)) then (if cnt s = 0 ∨ rm < runTop (s :: pre) then [] else ords rm d (dec cnt s) (s :: pre)) else []) (12 - b) b = (if cnt t = 0 ∨ rm < runTop (t :: pre) then [] else ords rm d (dec cnt t) (t :: pre)) ++ ofl (fun s => if s ∈ unt g (i + 1) (P.drop (i + 1)) then (if cnt s = 0 ∨ rm < runTop (s :: pre) then [] else ords rm d (dec cnt s) (s :: pre)) else []) (12 - (t + 1)) (t + 1) := fun htb => by
            rw [ofl_from htb t12 (fun s h1 h2 => by
              rw [if_neg]
              intro q
              rcases List.mem_cons.mp q with z | z
              · omega
              · have := geR s z; omega)]
            rw [if_pos List.mem_cons_self]
            congr 1
            exact ofl_congr _ _ (fun s h1 _ => by
              have := memS s (by omega)
              by_cases c : s ∈ unt g (i + 1) (P.drop (i + 1))
              · rw [if_pos c, if_pos (this.mpr c)]
              · rw [if_neg c, if_neg (fun q => c (this.mp q))])
          have skip : (t = tr ∨ rm < runTop (t :: pre)) → ∃ rw2, fX0_lay_70 (fX0_lay dep) fu rn rw0 (nI n) (pk P) (nI P.length) (nI rm) cells (nI pre.length) (pk pre.reverse) (nI (runTop pre)) (nI g) (i32 (tot (ceQ nb) P.length 1 0 0 pre.reverse)) (i32 (tot (ceQ nb) P.length 2 2 0 pre.reverse)) be (i32 (far P.length pre.length)) (i32 (wgt 2 (far P.length pre.length))) (rI tr) (nI (i + 1)) = some (rw2, nI (n + (ofl (fun s => if s ∈ t :: unt g (i + 1) (P.drop (i + 1)) then (if cnt s = 0 ∨ rm < runTop (s :: pre) then [] else ords rm d (dec cnt s) (s :: pre)) else []) (12 - b) b).length)) ∧ ∀ j, j < n + (ofl (fun s => if s ∈ t :: unt g (i + 1) (P.drop (i + 1)) then (if cnt s = 0 ∨ rm < runTop (s :: pre) then [] else ords rm d (dec cnt s) (s :: pre)) else []) (12 - b) b).length → rw2 j = enc (ceQ nb) (O.getD j []) := by
            intro hsk
            by_cases htb : t < b
            · rw [same htb] at hO ⊢
              exact ihk fu (i + 1) b tr rw0 n rest (by omega) (by omega) hb htr (fun x hx => hcond x (List.mem_cons_of_mem _ hx)) hO hrows
            · have bad : rm < runTop (t :: pre) := by
                rcases hsk with q | q
                · omega
                · exact q
              rw [next (by omega), if_pos (Or.inr bad), List.nil_append] at hO ⊢
              exact ihk fu (i + 1) (t + 1) tr rw0 n rest (by omega) (by omega) (by omega) (by omega) (fun x hx hxb => by
                have := geR x hx
                rw [show x = t by omega]; exact Or.inr bad) hO hrows
          have st : ∀ z, z = nI (runTop (t :: pre)) → ∃ rw2, fX0_lay_123 (fX0_lay dep) (fX0_lay_70 (fX0_lay dep) fu) rn rw0 (nI n) (pk P) (nI P.length) (nI rm) cells (nI pre.length) (pk pre.reverse) (nI (runTop pre)) (nI g) (i32 (tot (ceQ nb) P.length 1 0 0 pre.reverse)) (i32 (tot (ceQ nb) P.length 2 2 0 pre.reverse)) be (i32 (far P.length pre.length)) (i32 (wgt 2 (far P.length pre.length))) (rI tr) (nI i) (nI t) z = some (rw2, nI (n + (ofl (fun s => if s ∈ t :: unt g (i + 1) (P.drop (i + 1)) then (if cnt s = 0 ∨ rm < runTop (s :: pre) then [] else ords rm d (dec cnt s) (s :: pre)) else []) (12 - b) b).length)) ∧ ∀ j, j < n + (ofl (fun s => if s ∈ t :: unt g (i + 1) (P.drop (i + 1)) then (if cnt s = 0 ∨ rm < runTop (s :: pre) then [] else ords rm d (dec cnt s) (s :: pre)) else []) (12 - b) b).length → rw2 j = enc (ceQ nb) (O.getD j []) := by
            intro z hz
            subst hz
            rw [fX0_lay_123]
            simp only [fX0_lay_207, nI_s]
            have etr : (nI t = rI tr) ↔ t = tr := by
              unfold rI
              by_cases q : tr = 99
              · rw [if_pos q]
                exact ⟨fun r => absurd r (m1_ne (by omega)), fun r => by omega⟩
              · rw [if_neg q]
                exact nI_inj (by omega) (by omega)
            by_cases c1 : t = tr
            · rw [if_pos (etr.mpr c1)]
              exact skip (Or.inl c1)
            · rw [if_neg (fun q => c1 (etr.mp q))]
              by_cases c2 : rm < runTop (t :: pre)
              · rw [if_le_n c2 (by omega)]
                exact skip (Or.inr c2)
              · have htb : b ≤ t := by
                  by_cases q : t < b
                  · rcases hcond t List.mem_cons_self q with r | r
                    · exact absurd r c1
                    · exact absurd r c2
                  · omega
                rw [next htb, if_neg (show ¬ (cnt t = 0 ∨ rm < runTop (t :: pre)) by omega), List.append_assoc] at hO
                rw [next htb, if_neg (show ¬ (cnt t = 0 ∨ rm < runTop (t :: pre)) by omega), List.length_append]
                have hR2 : R16 (t :: pre).reverse := by
                  rw [List.reverse_cons]
                  exact hR.push (by omega) (by rw [List.length_reverse]; omega)
                have epk : pk pre.reverse ||| (nI t <<< ((4 * nI pre.length) &&& 31)) = pk (t :: pre).reverse := by
                  have := or_pk hR (t := t) (by omega) (by rw [List.length_reverse]; omega)
                  rw [List.length_reverse] at this
                  rw [List.reverse_cons]; exact this
                have et1 : i32 (tot (ceQ nb) P.length 1 0 0 pre.reverse) + i32 (far P.length pre.length) * i32 (ceQ nb (9 * t + 0)) = i32 (tot (ceQ nb) P.length 1 0 0 (t :: pre).reverse) := by
                  rw [List.reverse_cons, tot_snoc, List.length_reverse, Nat.zero_add, ← i32_mul, ← i32_add]
                  rfl
                have et2 : i32 (tot (ceQ nb) P.length 2 2 0 pre.reverse) + i32 (wgt 2 (far P.length pre.length)) * i32 (ceQ nb (9 * t + 2)) = i32 (tot (ceQ nb) P.length 2 2 0 (t :: pre).reverse) := by
                  rw [List.reverse_cons, tot_snoc, List.length_reverse, Nat.zero_add, ← i32_mul, ← i32_add]
                have ce0 := h.cellC tkn (c := 0) (by omega)
                have ce2 := h.cellC tkn (c := 2) (by omega)
                rw [← lit_nI0] at ce0
                rw [← lit_nI2] at ce2
                have hc2 : ∀ x, dec cnt t x = (unt (g ||| 2 ^ i) 0 P).count x := fun x => by
                  have := unt_or cb' x P 0 (by omega) (by omega)
                  rw [Nat.sub_zero, ht] at this
                  rw [dec_at, hc x, this]
                  by_cases q : x = t
                  · rw [if_pos q, if_pos q.symm]; omega
                  · rw [if_neg q, if_neg (fun r => q r.symm)]; omega
                obtain ⟨rw2, q1, q2⟩ := ih dep (dec cnt t) (g ||| 2 ^ i) (t :: pre) rw0 n _ (by rw [List.length_cons]; omega) (by omega) hR2 (fun x hx => by
                  rcases List.mem_cons.mp hx with q | q
                  · rw [q]; exact tkn
                  · exact hp x q) (or_lt256 hg (by omega)) hc2 hO hrows
                rw [List.length_cons] at q1
                rw [if_le_y (by omega) (by omega), ce0, Option.bind_some, ce2, Option.bind_some, epk, bit1 i (by omega), or_nI, et1, et2, q1, ob2_some]
                have e99 : nI t = rI t := by unfold rI; rw [if_neg (by omega)]
                rw [e99]
                obtain ⟨rw3, w1, w2⟩ := ihk fu (i + 1) (t + 1) t rw2 _ rest (by omega) (by omega) (by omega) (by omega) (fun x hx hxb => by
                  have := geR x hx
                  exact Or.inl (by omega)) (drop_app hO) q2
                exact ⟨rw3, by rw [w1, Nat.add_assoc], by rw [← Nat.add_assoc]; exact w2⟩
          by_cases c : pre.length = 0
          · rw [if_pos c] at hbe
            rw [hbe] at st ⊢
            rw [if_neg (m1_ne (by omega))]
            exact st 1 (by rw [rcs, if_neg (by omega)]; rfl)
          · rw [if_neg c] at hbe
            rw [hbe] at st ⊢
            by_cases e : pre.reverse.getD (pre.length - 1) 0 % 4 = t % 4
            · rw [if_eq_y e.symm, nI_s]
              exact st _ (by rw [rcs, if_pos ⟨by omega, e⟩])
            · rw [if_eq_n (fun q => e q.symm) (by omega) (by omega)]
              exact st 1 (by rw [rcs, if_neg (fun q => e q.2)]; rfl)
    have start : ofl (fun t => if t ∈ unt g 0 (P.drop 0) then (if cnt t = 0 ∨ rm < runTop (t :: pre) then [] else ords rm d (dec cnt t) (t :: pre)) else []) (12 - 0) 0 = ords rm (d + 1) cnt pre := by
      rw [ords_s]
      refine ofl_congr _ _ (fun s _ _ => ?_)
      rw [List.drop_zero]
      by_cases c : s ∈ unt g 0 P
      · rw [if_pos c]
      · rw [if_neg c, if_pos (Or.inl (by rw [hc s]; exact List.count_eq_zero_of_not_mem c))]
    have go : ∀ (be : Int32), (be = if pre.length = 0 then -1 else nI (pre.reverse.getD (pre.length - 1) 0 % 4)) → ∃ rw2, fX0_lay_45 (fX0_lay dep) rn rw0 (nI n) (pk P) (nI P.length) (nI rm) cells (nI pre.length) (pk pre.reverse) (nI (runTop pre)) (nI g) (i32 (tot (ceQ nb) P.length 1 0 0 pre.reverse)) (i32 (tot (ceQ nb) P.length 2 2 0 pre.reverse)) be = some (rw2, nI (n + (ords rm (d + 1) cnt pre).length)) ∧ ∀ j, j < n + (ords rm (d + 1) cnt pre).length → rw2 j = enc (ceQ nb) (O.getD j []) := by
      intro be hbe
      rw [fX0_lay_45, farE, thE]
      obtain ⟨rw2, q1, q2⟩ := lp be hbe P.length FU 0 0 99 rw0 n rest (by omega) (FU_gt (by omega)) (by omega) (Or.inl rfl) (fun t _ q => absurd q (by omega)) (by rw [start]; exact hO) hrows
      rw [start] at q1 q2
      exact ⟨rw2, q1, q2⟩
    rw [fX0_lay, fX0_lay_e, if_le_n (show pre.length < P.length by omega) (by omega), lit_nI8, if_lt_y hpl (by omega)]
    by_cases c : pre.length = 0
    · rw [if_pos (show nI pre.length ≤ 0 by rw [c]; decide)]
      exact go (-1) (by rw [if_pos c])
    · rw [if_neg (show ¬ nI pre.length ≤ 0 from fun q => by have := (nI_le' (b := 0) (by omega) (by omega)).mp q; omega), show nI pre.length - 1 = nI (pre.length - 1) from nI_sub (b := 1) (by omega), angleAt_pk hR (by omega)]
      exact go _ (by rw [if_neg c])
end
theorem potL_step {i m s : Nat} (h : (m, s) ∈ potL i) (c : Prop) [Decidable c] : (m * (i + 1) / (if c then s + 1 else 1), if c then s + 1 else 1) ∈ potL (i + 1) := by
  rw [potL, List.mem_flatMap]
  refine ⟨(m, s), h, ?_⟩
  by_cases q : c
  · rw [if_pos q]; simp
  · rw [if_neg q, Nat.div_one]; simp
theorem potL_s : ∀ i, i < 9 → ∀ q ∈ potL i, q.2 ≤ 8 := by decide +kernel
theorem cMost_loop {P : List Nat} (hR : R16 P) : ∀ (k n i m s : Nat), i + k = P.length → k < n → (m, s) ∈ potL i → fX0_mostRows_6 n (pk P) (nI P.length) (nI m) (nI s) (nI i) = some (nI (mrL P k i m s)) := by
  have l8 := hR.2
  intro k
  induction k with
  | zero =>
    intro n i m s hi hn hp
    obtain ⟨n, rfl, -⟩ := succ_of hn
    rw [fX0_mostRows_6, if_le_y (by omega) (by omega), mrL]
  | succ k ih =>
    intro n i m s hi hn hp
    obtain ⟨n, rfl, hn'⟩ := succ_of hn
    have m4 := potS_le m (potS_mem (show i ≤ 8 by omega) hp)
    have s8 : s ≤ 8 := potL_s i (by omega) _ hp
    have mi : m * (i + 1) ≤ 40320 * 8 := Nat.mul_le_mul m4 (by omega)
    have st : ∀ z, z = nI (if 0 < i ∧ P.getD i 0 = P.getD (i - 1) 0 then s + 1 else 1) → fX0_mostRows_46 (fX0_mostRows_6 n) (pk P) (nI P.length) (nI m) (nI i) z = some (nI (mrL P (k + 1) i m s)) := by
      intro z hz
      have zp : 0 < (if 0 < i ∧ P.getD i 0 = P.getD (i - 1) 0 then s + 1 else 1) := by split <;> omega
      have zl : (if 0 < i ∧ P.getD i 0 = P.getD (i - 1) 0 then s + 1 else 1) < 100 := by split <;> omega
      rw [fX0_mostRows_46, hz, imax1_nI (by omega) (by omega), nz_no (show ¬ nI (if 0 < i ∧ P.getD i 0 = P.getD (i - 1) 0 then s + 1 else 1) = 0 from nI_ne (b := 0) (by omega) (by omega) (by omega)), nI_s, nI_mul, idiv_nI (by omega) (by omega), ih n (i + 1) _ _ (by omega) (by omega) (potL_step hp _), mrL]
    rw [fX0_mostRows_6, if_le_n (by omega) (by omega)]
    by_cases c : i = 0
    · rw [if_pos (show nI i ≤ 0 by rw [c]; decide), fX0_mostRows_45]
      exact st 1 (by rw [if_neg (by omega)]; rfl)
    · have g1 := getD_lt12 hR i
      have g2 := getD_lt12 hR (i - 1)
      rw [if_neg (show ¬ nI i ≤ 0 from fun q => by have := (nI_le' (b := 0) (by omega) (by omega)).mp q; omega), show nI i - 1 = nI (i - 1) from nI_sub (b := 1) (by omega), typeAt_pk hR (by omega), typeAt_pk hR (by omega)]
      by_cases e : P.getD i 0 = P.getD (i - 1) 0
      · rw [if_eq_y e, nI_s]
        exact st _ (by rw [if_pos ⟨by omega, e⟩])
      · rw [if_eq_n e (by omega) (by omega), fX0_mostRows_45]
        exact st 1 (by rw [if_neg (fun q => e q.2)]; rfl)
