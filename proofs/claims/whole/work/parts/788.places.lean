/-! the model goes through all orders -/
theorem runTop_le : ∀ (l : List Nat), runTop l ≤ l.length
  | [] => Nat.le_refl _
  | [_] => Nat.le_refl _
  | a :: b :: l => by
    have := runTop_le (b :: l)
    rw [runTop]
    split
    · simp only [List.length_cons] at *; omega
    · simp
theorem runTop_cons (t : Nat) (pre : List Nat) : runTop (t :: pre) = if 0 < pre.length ∧ pre.reverse.getD (pre.length - 1) 0 % 4 = t % 4 then runTop pre + 1 else 1 := by
  cases pre with
  | nil => rfl
  | cons b r =>
    have e : (b :: r).reverse.getD ((b :: r).length - 1) 0 = b := by
      rw [List.getD_eq_getElem?_getD, List.getElem?_reverse (by simp)]
      simp
    rw [runTop, e]
    by_cases c : t % 4 = b % 4
    · rw [if_pos c, if_pos ⟨by simp, c.symm⟩]
    · rw [if_neg c, if_neg (fun q => c q.2.symm)]
theorem drop_getD {L : List (List Nat)} {n : Nat} {x : List Nat} {r : List (List Nat)} (h : L.drop n = x :: r) : n < L.length ∧ L.getD n [] = x ∧ L.drop (n + 1) = r := by
  have hn : n < L.length := by
    by_cases c : n < L.length
    · exact c
    · rw [List.drop_eq_nil_of_le (by omega)] at h
      exact absurd h (by simp)
  rw [List.drop_eq_getElem_cons hn] at h
  injection h with h1 h2
  refine ⟨hn, ?_, h2⟩
  rw [List.getD_eq_getElem?_getD, List.getElem?_eq_getElem hn]
  exact h1
theorem drop_app {L a r : List (List Nat)} {n : Nat} (h : L.drop n = a ++ r) : L.drop (n + a.length) = r := by
  rw [← List.drop_drop, h, List.drop_left]
section
variable {numbers cells rows sizes rooms mem : Nat → Int32} {kn a : Nat} {l : List Nat} {rm : Nat} {nb : Nat → Int}
theorem VW.plc (h : VW numbers cells rows sizes rooms mem kn a l rm nb) {m : Nat} (hm : m < 8) {mode wanted : Int32} {L : List (List Nat)} {Pst : Nat → Int32 → Int32 → Int64 → (Nat → Int32) → (Nat → Int64) → Int32 → Prop} (hstep : ∀ n o fa fb fo se un row, n < L.length → Pst n o fa fb fo se un → RW row (L.getD n []) → (L.getD n []).length = l.length → R16 (L.getD n []) → (∀ t ∈ L.getD n [], t < 4 * kn) → ∃ o2 fa2 fb2 fo2 se2 un2, fX8_visits mem row (nI l.length) 0 mode wanted o fa fb fo se un = some (o2, fa2, fb2, fo2, se2, un2) ∧ Pst (n + 1) o2 fa2 fb2 fo2 se2 un2) : ∀ (d dep : Nat) (cnt : Nat → Nat) (pre : List Nat) (row left : Nat → Int32) (n : Nat) (rest : List (List Nat)) (o fa : Int32) (fb : Int64) (fo : Nat → Int32) (se : Nat → Int64) (un : Int32), pre.length + d = l.length → d < dep → R16 pre.reverse → (∀ t ∈ pre, t < 4 * kn) → (∀ t, cnt t ≤ 8 ∧ (¬ cnt t = 0 → t < 4 * kn)) → RW row pre.reverse → (∀ t, t < 12 → left t = nI (cnt t)) → L.drop n = (ords rm d cnt pre).filter (fun x => soB (ceQ nb) x m) ++ rest → Pst n o fa fb fo se un → ∃ row2 left2 o2 fa2 fb2 fo2 se2 un2, fX8_places dep mem row (nI l.length) 0 left (nI m) mode wanted o fa fb fo se un (nI pre.length) (nI (runTop pre)) = some (row2, left2, o2, fa2, fb2, fo2, se2, un2) ∧ Pst (n + ((ords rm d cnt pre).filter (fun x => soB (ceQ nb) x m)).length) o2 fa2 fb2 fo2 se2 un2 ∧ RW row2 pre.reverse ∧ ∀ t, t < 12 → left2 t = nI (cnt t) := by
  have l8 := h.len
  have k3 := h.kn3
  have r8 := h.rm8
  intro d
  induction d with
  | zero =>
    intro dep cnt pre row left n rest o fa fb fo se un hd hdep hR hp hc hrw hlf hL hP
    obtain ⟨dep, rfl, -⟩ := succ_of hdep
    have e : nI pre.length = nI pre.reverse.length := by rw [List.length_reverse]
    have e2 : nI l.length = nI pre.reverse.length := by rw [List.length_reverse, show pre.length = l.length by omega]
    have p3 : ∀ t ∈ pre.reverse, t < 4 * kn := fun t ht => hp t (List.mem_reverse.mp ht)
    have so := h.isSo hR p3 hrw hm
    rw [fX8_places, fX8_places_e, if_eq_y (show pre.length = l.length by omega), e2, so, Option.bind_some]
    rw [ords] at hL ⊢
    cases c : soB (ceQ nb) pre.reverse m with
    | false =>
      rw [if_pos (show b32 false = 0 from rfl)]
      refine ⟨row, left, o, fa, fb, fo, se, un, rfl, ?_, hrw, hlf⟩
      rw [show ([pre.reverse].filter (fun x => soB (ceQ nb) x m)) = [] by simp [c]]
      exact hP
    | true =>
      rw [show ([pre.reverse].filter (fun x => soB (ceQ nb) x m)) = [pre.reverse] by simp [c]] at hL ⊢
      obtain ⟨g1, g2, g3⟩ := drop_getD hL
      obtain ⟨o2, fa2, fb2, fo2, se2, un2, v1, v2⟩ := hstep n o fa fb fo se un row g1 hP (by rw [g2]; exact hrw) (by rw [g2, List.length_reverse]; omega) (by rw [g2]; exact hR) (by rw [g2]; exact p3)
      rw [e2] at v1
      rw [if_neg (show ¬ b32 true = 0 by decide), v1, ob6_some]
      exact ⟨row, left, o2, fa2, fb2, fo2, se2, un2, rfl, v2, hrw, hlf⟩
  | succ d ih =>
    intro dep cnt pre row left n rest o fa fb fo se un hd hdep hR hp hc hrw hlf hL hP
    obtain ⟨dep, rfl, hdep'⟩ := succ_of hdep
    rw [ords_s] at hL ⊢
    have rt := runTop_le pre
    -- the loop over types
    have lp : ∀ (k fu i : Nat) (row left : Nat → Int32) (n : Nat) (rest : List (List Nat)) (o fa : Int32) (fb : Int64) (fo : Nat → Int32) (se : Nat → Int64) (un : Int32), i + k = 12 → k < fu → RW row pre.reverse → (∀ t, t < 12 → left t = nI (cnt t)) → L.drop n = (ofl (fun t => if cnt t = 0 ∨ rm < runTop (t :: pre) then [] else ords rm d (dec cnt t) (t :: pre)) k i).filter (fun x => soB (ceQ nb) x m) ++ rest → Pst n o fa fb fo se un → ∃ row2 left2 o2 fa2 fb2 fo2 se2 un2, fX8_places_26 (fX8_places dep) fu mem row (nI l.length) 0 left (nI m) mode wanted o fa fb fo se un (nI pre.length) (nI (runTop pre)) (nI i) = some (row2, left2, o2, fa2, fb2, fo2, se2, un2) ∧ Pst (n + ((ofl (fun t => if cnt t = 0 ∨ rm < runTop (t :: pre) then [] else ords rm d (dec cnt t) (t :: pre)) k i).filter (fun x => soB (ceQ nb) x m)).length) o2 fa2 fb2 fo2 se2 un2 ∧ RW row2 pre.reverse ∧ ∀ t, t < 12 → left2 t = nI (cnt t) := by
      intro k
      induction k with
      | zero =>
        intro fu i row left n rest o fa fb fo se un hi hfu hrw hlf hL hP
        obtain ⟨fu, rfl, -⟩ := succ_of hfu
        refine ⟨row, left, o, fa, fb, fo, se, un, by rw [fX8_places_26, show (12 : Int32) = nI 12 from rfl, if_le_y (by omega) (by omega)], ?_, hrw, hlf⟩
        rw [ofl]
        exact hP
      | succ k ihk =>
        intro fu i row left n rest o fa fb fo se un hi hfu hrw hlf hL hP
        obtain ⟨fu, rfl, hfu'⟩ := succ_of hfu
        rw [ofl, List.filter_append, List.append_assoc] at hL
        have rc := runTop_cons i pre
        have rl := runTop_le (i :: pre)
        rw [List.length_cons] at rl
        have ci := hc i
        have st : ∀ z, z = nI (runTop (i :: pre)) → ∃ row2 left2 o2 fa2 fb2 fo2 se2 un2, fX8_places_59 (fX8_places dep) (fX8_places_26 (fX8_places dep) fu) mem row (nI l.length) 0 left (nI m) mode wanted o fa fb fo se un (nI pre.length) (nI (runTop pre)) (nI i) z = some (row2, left2, o2, fa2, fb2, fo2, se2, un2) ∧ Pst (n + ((ofl (fun t => if cnt t = 0 ∨ rm < runTop (t :: pre) then [] else ords rm d (dec cnt t) (t :: pre)) (k + 1) i).filter (fun x => soB (ceQ nb) x m)).length) o2 fa2 fb2 fo2 se2 un2 ∧ RW row2 pre.reverse ∧ ∀ t, t < 12 → left2 t = nI (cnt t) := by
          intro z hz
          subst hz
          rw [fX8_places_59, chkN (by omega) (by omega), nI_clamp' (by omega), hlf i (by omega), h.m0]
          rw [ofl, List.filter_append, List.length_append]
          simp only [fX8_places_120, nI_s]
          by_cases c0 : cnt i = 0
          · rw [if_pos (Or.inl c0)] at hL ⊢
            rw [if_pos (show nI (cnt i) = 0 by rw [c0]; rfl)]
            obtain ⟨row2, left2, o2, fa2, fb2, fo2, se2, un2, q1, q2, q3, q4⟩ := ihk fu (i + 1) row left n rest o fa fb fo se un (by omega) (by omega) hrw hlf hL hP
            exact ⟨row2, left2, o2, fa2, fb2, fo2, se2, un2, q1, by rw [List.filter_nil, List.length_nil, Nat.zero_add]; exact q2, q3, q4⟩
          · rw [if_neg (show ¬ nI (cnt i) = 0 from nI_ne (b := 0) c0 (by omega) (by omega))]
            by_cases c1 : rm < runTop (i :: pre)
            · rw [if_pos (Or.inr c1)] at hL ⊢
              rw [if_le_n (by omega) (by omega)]
              obtain ⟨row2, left2, o2, fa2, fb2, fo2, se2, un2, q1, q2, q3, q4⟩ := ihk fu (i + 1) row left n rest o fa fb fo se un (by omega) (by omega) hrw hlf hL hP
              exact ⟨row2, left2, o2, fa2, fb2, fo2, se2, un2, q1, by rw [List.filter_nil, List.length_nil, Nat.zero_add]; exact q2, q3, q4⟩
            · rw [if_neg (show ¬ (cnt i = 0 ∨ rm < runTop (i :: pre)) by omega)] at hL ⊢
              rw [if_le_y (by omega) (by omega), chkN (by omega) (by omega), chkN (by omega) (by omega), chkN (by omega) (by omega), nI_clamp' (by omega), show nI (cnt i) - 1 = nI (cnt i - 1) from nI_sub (b := 1) (by omega)]
              have hR2 : R16 (i :: pre).reverse := by
                rw [List.reverse_cons]
                exact hR.push (by omega) (by rw [List.length_reverse]; omega)
              have hrw2 : RW (upd row pre.length (nI i)) (i :: pre).reverse := by
                intro p hp2
                rw [List.length_reverse, List.length_cons] at hp2
                rw [List.reverse_cons]
                by_cases e : p = pre.length
                · have := getD_app_end (l := pre.reverse) (t := i)
                  rw [List.length_reverse] at this
                  rw [e, upd_same, this]
                · rw [upd_ne _ _ e, getD_app_l (by rw [List.length_reverse]; omega)]
                  exact hrw p (by rw [List.length_reverse]; omega)
              have hlf2 : ∀ t, t < 12 → upd left i (nI (cnt i - 1)) t = nI (dec cnt i t) := fun t ht => by
                rw [dec_at]
                by_cases e : t = i
                · rw [e, upd_same, if_pos rfl]
                · rw [upd_ne _ _ e, if_neg e]; exact hlf t ht
              obtain ⟨row2, left2, o2, fa2, fb2, fo2, se2, un2, q1, q2, q3, q4⟩ := ih dep (dec cnt i) (i :: pre) _ _ n _ o fa fb fo se un (by rw [List.length_cons]; omega) (by omega) hR2 (fun t ht => by
                rcases List.mem_cons.mp ht with q | q
                · rw [q]; exact ci.2 c0
                · exact hp t q) (fun t => by
                have := hc t
                rw [dec_at]
                split
                · exact ⟨by omega, fun q => this.2 (by omega)⟩
                · exact this) hrw2 hlf2 hL hP
              rw [List.length_cons] at q1
              rw [q1, ob8_some, chkN (by omega) (by omega), chkN (by omega) (by omega), q4 i (by omega), nI_s]
              have hrw3 : RW row2 pre.reverse := fun p hp2 => by
                rw [List.length_reverse] at hp2
                have := q3 p (by rw [List.length_reverse, List.length_cons]; omega)
                rw [List.reverse_cons, getD_app_l (by rw [List.length_reverse]; exact hp2)] at this
                exact this
              have hlf3 : ∀ t, t < 12 → upd left2 i (nI (dec cnt i i + 1)) t = nI (cnt t) := fun t ht => by
                by_cases e : t = i
                · rw [e, upd_same, dec_at, if_pos rfl]
                  congr 1
                  omega
                · rw [upd_ne _ _ e, q4 t ht, dec_at, if_neg e]
              obtain ⟨row3, left3, o3, fa3, fb3, fo3, se3, un3, w1, w2, w3, w4⟩ := ihk fu (i + 1) row2 _ _ rest o2 fa2 fb2 fo2 se2 un2 (by omega) (by omega) hrw3 hlf3 (drop_app hL) q2
              exact ⟨row3, left3, o3, fa3, fb3, fo3, se3, un3, w1, by rw [← Nat.add_assoc]; exact w2, w3, w4⟩
        rw [fX8_places_26, show (12 : Int32) = nI 12 from rfl, if_le_n (by omega) (by omega), lit_nI0]
        by_cases c : pre.length = 0
        · rw [if_le_y (by omega) (by omega), fX8_places_58, ← lit_nI0]
          exact st 1 (by rw [rc, if_neg (by omega)]; rfl)
        · have gl := getD_lt12 hR (pre.length - 1)
          rw [if_le_n (by omega) (by omega), ← lit_nI0, show nI pre.length - 1 = nI (pre.length - 1) from nI_sub (b := 1) (by omega), chkN (by omega) (by omega), nI_clamp' (by omega), hrw _ (by rw [List.length_reverse]; omega), lit_nI4, irem_nI (by omega) (by omega) (by omega), irem_nI (by omega) (by omega) (by omega), nI_s]
          by_cases e : pre.reverse.getD (pre.length - 1) 0 % 4 = i % 4
          · rw [if_eq_y e]
            exact st _ (by rw [rc, if_pos ⟨by omega, e⟩])
          · rw [if_eq_n e (by omega) (by omega), fX8_places_58]
            exact st 1 (by rw [rc, if_neg (fun q => e q.2)]; rfl)
    rw [fX8_places, fX8_places_e, if_eq_n (by omega) (by omega) (by omega)]
    obtain ⟨row2, left2, o2, fa2, fb2, fo2, se2, un2, q1, q2, q3, q4⟩ := lp 12 FU 0 row left n rest o fa fb fo se un (by omega) (FU_gt (by omega)) hrw hlf hL hP
    rw [← lit_nI0] at q1
    exact ⟨row2, left2, o2, fa2, fb2, fo2, se2, un2, q1, q2, q3, q4⟩
/-- all orders that are so -/
def OL (nb : Nat → Int) (l : List Nat) (rm m : Nat) : List (List Nat) := (ordL rm l).filter (fun x => soB (ceQ nb) x m)
theorem left0_loop {mem row : Nat → Int32} {wide lost mask mode wanted o fa : Int32} {fb : Int64} {fo : Nat → Int32} {se : Nat → Int64} {un : Int32} : ∀ (k n i : Nat) (left : Nat → Int32), i + k = 12 → k < n → (∀ t, t < i → left t = 0) → ∃ left2, fX8_goes_48 n mem row wide lost left mask mode wanted o fa fb fo se un (nI i) = fX8_goes_69 mem row wide lost left2 mask mode wanted o fa fb fo se un ∧ ∀ t, t < 12 → left2 t = 0 := by
  intro k
  induction k with
  | zero =>
    intro n i left hi hn hl
    obtain ⟨n, rfl, -⟩ := succ_of hn
    exact ⟨left, by rw [fX8_goes_48, show (12 : Int32) = nI 12 from rfl, if_le_y (by omega) (by omega)], fun t ht => hl t (by omega)⟩
  | succ k ih =>
    intro n i left hi hn hl
    obtain ⟨n, rfl, hn'⟩ := succ_of hn
    rw [fX8_goes_48, show (12 : Int32) = nI 12 from rfl, if_le_n (by omega) (by omega), chkN (by omega) (by omega), nI_clamp' (by omega), nI_s]
    exact ih n (i + 1) _ (by omega) (by omega) (fun t ht => by
      by_cases e : t = i
      · rw [e, upd_same]
      · rw [upd_ne _ _ e]; exact hl t (by omega))
theorem left1_loop {mem row : Nat → Int32} {l : List Nat} (hR : R16 l) (mt : ∀ p, p < l.length → mem (19 + p) = nI (l.getD p 0)) {lost mask mode wanted o fa : Int32} {fb : Int64} {fo : Nat → Int32} {se : Nat → Int64} {un : Int32} : ∀ (k n i : Nat) (left : Nat → Int32), i + k = l.length → k < n → (∀ t, t < 12 → left t = nI ((l.take i).count t)) → ∃ left2, fX8_goes_72 n mem row (nI l.length) lost left mask mode wanted o fa fb fo se un (nI i) = fX8_goes_106 mem row (nI l.length) lost left2 mask mode wanted o fa fb fo se un ∧ ∀ t, t < 12 → left2 t = nI (cntOf l t) := by
  have l8 := hR.2
  intro k
  induction k with
  | zero =>
    intro n i left hi hn hl
    obtain ⟨n, rfl, -⟩ := succ_of hn
    refine ⟨left, by rw [fX8_goes_72, if_le_y (by omega) (by omega)], fun t ht => ?_⟩
    rw [hl t ht, List.take_of_length_le (by omega)]
    rfl
  | succ k ih =>
    intro n i left hi hn hl
    obtain ⟨n, rfl, hn'⟩ := succ_of hn
    have g := getD_lt12 hR i
    rw [fX8_goes_72, if_le_n (by omega) (by omega), chk19 (by omega), clamp19 (by omega), mt i (by omega), chkN g (by omega), chkN g (by omega), nI_clamp' (by omega), hl _ g, nI_s, nI_s]
    refine ih n (i + 1) _ (by omega) (by omega) (fun t ht => ?_)
    rw [← take_s (show i < l.length by omega), count_snoc]
    by_cases e : t = l.getD i 0
    · rw [e, upd_same, if_pos rfl]
    · rw [upd_ne _ _ e, if_neg (fun q => e q.symm), Nat.add_zero]; exact hl t ht
theorem VW.goes (h : VW numbers cells rows sizes rooms mem kn a l rm nb) {m : Nat} (hm : m < 8) {mode wanted : Int32} {Pst : Nat → Int32 → Int32 → Int64 → (Nat → Int32) → (Nat → Int64) → Int32 → Prop} (hstep : ∀ n o fa fb fo se un row, n < (OL nb l rm m).length → Pst n o fa fb fo se un → RW row ((OL nb l rm m).getD n []) → ((OL nb l rm m).getD n []).length = l.length → R16 ((OL nb l rm m).getD n []) → (∀ t ∈ (OL nb l rm m).getD n [], t < 4 * kn) → ∃ o2 fa2 fb2 fo2 se2 un2, fX8_visits mem row (nI l.length) 0 mode wanted o fa fb fo se un = some (o2, fa2, fb2, fo2, se2, un2) ∧ Pst (n + 1) o2 fa2 fb2 fo2 se2 un2) (row : Nat → Int32) (wide lost : Int32) (left : Nat → Int32) (mask0 mode0 wanted0 o0 fa0 : Int32) (fb0 : Int64) (fo : Nat → Int32) (se : Nat → Int64) (un : Int32) (hP : Pst 0 0 (-1) 0 fo se un) : ∃ row2 left2 o2 fa2 fb2 fo2 se2 un2, fX8_goes mem row wide lost left mask0 mode0 wanted0 o0 fa0 fb0 fo se un (nI m) mode wanted = some (o2, row2, nI l.length, 0, left2, nI m, mode, wanted, o2, fa2, fb2, fo2, se2, un2) ∧ Pst (OL nb l rm m).length o2 fa2 fb2 fo2 se2 un2 := by
  have l8 := h.len
  obtain ⟨lf1, a1, a2⟩ := left0_loop (mem := mem) (row := row) (wide := nI l.length) (lost := 0) (mask := nI m) (mode := mode) (wanted := wanted) (o := 0) (fa := -1) (fb := 0) (fo := fo) (se := se) (un := un) 12 FU 0 left (by omega) (FU_gt (by omega)) (fun t ht => absurd ht (by omega))
  obtain ⟨lf2, b1, b2⟩ := left1_loop h.R h.mt (row := row) (lost := 0) (mask := nI m) (mode := mode) (wanted := wanted) (o := 0) (fa := -1) (fb := 0) (fo := fo) (se := se) (un := un) l.length FU 0 lf1 (by omega) (FU_gt (by omega)) (fun t ht => by rw [a2 t ht]; simp [nI])
  obtain ⟨row2, left2, o2, fa2, fb2, fo2, se2, un2, q1, q2, q3, q4⟩ := h.plc hm (mode := mode) (wanted := wanted) (L := OL nb l rm m) (Pst := Pst) hstep l.length RD (cntOf l) [] row lf2 0 [] 0 (-1) 0 fo se un (by simp) (show l.length < 10 by omega) ⟨by simp, by simp⟩ (by simp) (fun t => ⟨count_le8 h.R t, fun q => h.lt t (List.count_pos_iff.mp (Nat.pos_of_ne_zero q))⟩) (fun p hp => by simp at hp) b2 (by rw [List.drop_zero, List.append_nil]; rfl) hP
  refine ⟨row2, left2, o2, fa2, fb2, fo2, se2, un2, ?_, ?_⟩
  · rw [← lit_nI0] at a1 b1
    rw [fX8_goes, h.m2, a1, fX8_goes_69, b1, fX8_goes_106]
    rw [show fX8_places RD mem row (nI l.length) 0 lf2 (nI m) mode wanted 0 (-1) 0 fo se un 0 0 = _ from q1, ob8_some]
  · rw [Nat.zero_add] at q2
    exact q2
end
