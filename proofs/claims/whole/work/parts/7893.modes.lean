/-! orders counted, the k-th, a place among them, the best, the nearest -/
theorem finds_loop {row : Nat → Int32} {w : Nat} (hw : w ≤ 8) {o : Int32} {fb : Int64} : ∀ (k n i : Nat) (fo : Nat → Int32), i + k = w → k < n → (∀ p, p < i → fo p = row p) → ∃ fo2, fX8_finds_15 n row (nI w) o fb fo (nI i) = some (o, fb, fo2) ∧ ∀ p, p < w → fo2 p = row p := by
  intro k
  induction k with
  | zero =>
    intro n i fo hi hn hf
    obtain ⟨n, rfl, -⟩ := succ_of hn
    exact ⟨fo, by rw [fX8_finds_15, if_le_y (by omega) (by omega)], fun p hp => hf p (by omega)⟩
  | succ k ih =>
    intro n i fo hi hn hf
    obtain ⟨n, rfl, hn'⟩ := succ_of hn
    rw [fX8_finds_15, if_le_n (by omega) (by omega), chkN (by omega) (by omega), chkN (by omega) (by omega), nI_clamp' (by omega), nI_s]
    exact ih n (i + 1) _ (by omega) (by omega) (fun p hp => by
      by_cases e : p = i
      · rw [e, upd_same]
      · rw [upd_ne _ _ e]; exact hf p (by omega))
theorem finds {row : Nat → Int32} {w : Nat} (hw : w ≤ 8) (o fa : Int32) (fb by0 : Int64) (fo : Nat → Int32) : ∃ fo2, fX8_finds row (nI w) o fa fb fo by0 = some (o, by0, fo2) ∧ ∀ p, p < w → fo2 p = row p := by
  obtain ⟨fo2, h1, h2⟩ := finds_loop (row := row) hw (o := o) (fb := by0) w FU 0 fo (by omega) (FU_gt (by omega)) (fun p hp => absurd hp (by omega))
  exact ⟨fo2, by rw [fX8_finds]; exact h1, h2⟩
theorem unl_comm (x y : List Nat) : unl x y = unl y x := by
  unfold unl
  induction x generalizing y with
  | nil => cases y <;> rfl
  | cons a x ih =>
    cases y with
    | nil => rfl
    | cons b y =>
      rw [List.zip_cons_cons, List.zip_cons_cons, List.filter_cons, List.filter_cons]
      have : (a != b) = (b != a) := bne_comm
      by_cases c : (a != b) = true
      · rw [if_pos c, if_pos (by rw [← this]; exact c), List.length_cons, List.length_cons, ih y]
      · rw [if_neg c, if_neg (by rw [← this]; exact c), ih y]
theorem unl_0 : ∀ {x y : List Nat}, x.length = y.length → (unl x y = 0 ↔ x = y)
  | [], [], _ => ⟨fun _ => rfl, fun _ => rfl⟩
  | [], _ :: _, h => by simp at h
  | _ :: _, [], h => by simp at h
  | a :: x, b :: y, h => by
    have ih := unl_0 (x := x) (y := y) (by simpa using h)
    unfold unl at ih ⊢
    rw [List.zip_cons_cons, List.filter_cons]
    by_cases c : a = b
    · rw [if_neg (by rw [c]; simp), ih, c]
      exact ⟨fun q => by rw [q], fun q => by injection q⟩
    · rw [if_pos (bne_iff_ne.mpr c)]
      constructor
      · intro q; simp at q
      · intro q; injection q with q1 _; exact absurd q1 c
theorem unl_le {x y : List Nat} (h : x.length ≤ 8) : unl x y ≤ 8 := by
  unfold unl
  have := List.length_filter_le (fun q : Nat × Nat => q.1 != q.2) (x.zip y)
  rw [List.length_zip] at this
  omega
/-- the index of the best of the first n -/
def bI (v : List Nat → Int) (L : List (List Nat)) : Nat → Nat
  | 0 => 99999
  | n + 1 => if bI v L n = 99999 then n else if v (L.getD n []) ≤ v (L.getD (bI v L n) []) then bI v L n else n
theorem bI_lt (v : List Nat → Int) (L : List (List Nat)) : ∀ n, n ≤ 50000 → (n = 0 ∧ bI v L n = 99999) ∨ (0 < n ∧ bI v L n < n)
  | 0, _ => Or.inl ⟨rfl, rfl⟩
  | n + 1, h => by
    have ih := bI_lt v L n (by omega)
    right
    refine ⟨by omega, ?_⟩
    rw [bI]
    repeat' split
    all_goals omega
def rK (x : Nat) : Int32 := if x = 99999 then -1 else nI x
theorem rK_m1 {b : Nat} (h : b < 50000 ∨ b = 99999) : rK b = -1 ↔ b = 99999 := by
  unfold rK
  by_cases c : b = 99999
  · rw [if_pos c]; exact ⟨fun _ => c, fun _ => rfl⟩
  · rw [if_neg c]
    exact ⟨fun q => absurd q (m1_ne (by omega)), fun q => absurd q c⟩
/-- what makes an order good -/
def vB (nb : Nat → Int) (w : Nat) (x : List Nat) : Int := if w = 3 then -(likesN x : Int) else tot (ceQ nb) x.length 2 (4 * w) 0 x
theorem likes_le (l : List Nat) : ∀ (k i : Nat), likes l k i ≤ k
  | 0, _ => Nat.le_refl _
  | k + 1, i => by
    have := likes_le l k (i + 1)
    rw [likes]
    split <;> omega
theorem likesN_le {l : List Nat} (h : l.length ≤ 8) : likesN l ≤ 8 := by
  have := likes_le l (l.length - 1) 1
  unfold likesN
  omega
section
variable {numbers cells rows sizes rooms mem : Nat → Int32} {kn a : Nat} {l : List Nat} {rm : Nat} {nb : Nat → Int}
theorem VW.olM (h : VW numbers cells rows sizes rooms mem kn a l rm nb) {m n : Nat} (hn : n < (OL nb l rm m).length) : ((OL nb l rm m).getD n []).length = l.length ∧ R16 ((OL nb l rm m).getD n []) ∧ ∀ t ∈ (OL nb l rm m).getD n [], t < 4 * kn := h.ordM _ (List.mem_filter.mp (getD_memL hn)).1
theorem VW.vB_bd (h : VW numbers cells rows sizes rooms mem kn a l rm nb) {w : Nat} (hw : w ≤ 3) {x : List Nat} (hR : R16 x) (h3 : ∀ t ∈ x, t < 4 * kn) : -710400 ≤ vB nb w x ∧ vB nb w x ≤ 710400 := by
  unfold vB
  split
  · have := likesN_le hR.2
    omega
  · exact h.bd0 hR h3 2 (by omega)
theorem VW.valueBy (h : VW numbers cells rows sizes rooms mem kn a l rm nb) {w : Nat} (hw : w ≤ 3) {x : List Nat} {row : Nat → Int32} (hR : R16 x) (h3 : ∀ t ∈ x, t < 4 * kn) (hr : RW row x) : fX8_valueBy mem row (nI x.length) 0 (nI w) = some (i64 (vB nb w x)) := by
  have b := likesN_le hR.2
  rw [fX8_valueBy]
  unfold vB
  by_cases c : w = 3
  · rw [if_pos (show nI w = 3 by rw [c]; rfl), if_pos c, mLikes hR hr, Option.bind_some, nI_i32, ← i32_neg, i32_l ⟨by omega, by omega⟩]
  · have s := h.sum hR h3 hr (w := 2) (i := w) (j := w) (g := 0) (by omega) (by omega) (by omega) (by omega)
    rw [← lit_nI0, ← lit_nI2, totG_0, show 3 * w + w = 4 * w by omega] at s
    rw [if_neg (show ¬ nI w = 3 from nI_ne (b := 3) c (by omega) (by omega)), if_neg c, s, Option.bind_some]
theorem VW.merit (h : VW numbers cells rows sizes rooms mem kn a l rm nb) {O : List (List Nat)} {rn : Nat} {rw0 : Nat → Int64} (hO : RO nb kn l O rn rw0) {w k : Nat} (hw : w ≤ 3) (hk : k < O.length) : fX0_merit rn rw0 (nI l.length) cells (nI k) (nI w) = some (if w = 3 then i64 (-(vB nb w (O.getD k []))) else i64 (vB nb w (O.getD k []))) := by
  obtain ⟨g1, g2, g3⟩ := hO.2.2.2 _ (getD_memL hk)
  have b := likesN_le g2.2
  rw [fX0_merit, hO.row hk, Option.bind_some, Option.bind_some, ← g1, likes_pk g2, Option.bind_some]
  unfold vB
  by_cases c : w = 3
  · rw [if_pos (show nI w = 3 by rw [c]; rfl), if_pos c, if_pos c, nI64 (by omega), Int.neg_neg, lN_i64]
  · have s := h.totOf g2 g3 (w := 2) (c := 4 * w) (g := 0) (by omega) (by omega) (by omega)
    rw [← lit_nI0, ← lit_nI2, totG_0] at s
    rw [if_neg (show ¬ nI w = 3 from nI_ne (b := 3) c (by omega) (by omega)), if_neg c, if_neg c, lit_nI4, nI_mul, s, Option.bind_some]
/-- the model: only counted -/
theorem VW.mCount (h : VW numbers cells rows sizes rooms mem kn a l rm nb) {m : Nat} (hm : m < 8) (row : Nat → Int32) (wide lost : Int32) (left : Nat → Int32) (k0 k1 k2 k3 k4 : Int32) (k5 : Int64) (fo : Nat → Int32) (se : Nat → Int64) (un : Int32) : ∃ row2 left2 o2 fa2 fb2 fo2 se2 un2, fX8_goes mem row wide lost left k0 k1 k2 k3 k4 k5 fo se un (nI m) 0 0 = some (o2, row2, nI l.length, 0, left2, nI m, 0, 0, o2, fa2, fb2, fo2, se2, un2) ∧ o2 = nI (OL nb l rm m).length :=
  h.goes hm (Pst := fun n o _ _ _ _ _ => o = nI n) (fun n o fa fb fo se un row _ hP _ _ _ _ => ⟨nI (n + 1), fa, fb, fo, se, un, by rw [fX8_visits, if_neg (by decide), fX8_visits_19, if_neg (by decide), fX8_visits_39, if_neg (by decide), fX8_visits_83, if_neg (by decide), fX8_visits_121, if_neg (by decide), hP, nI_s], rfl⟩) row wide lost left k0 k1 k2 k3 k4 k5 fo se un rfl
/-- the k-th -/
theorem VW.mKth (h : VW numbers cells rows sizes rooms mem kn a l rm nb) {m v : Nat} (hm : m < 8) (hv : v < 2147483648) (h9 : (OL nb l rm m).length ≤ 40320) (row : Nat → Int32) (wide lost : Int32) (left : Nat → Int32) (k0 k1 k2 k3 k4 : Int32) (k5 : Int64) (fo : Nat → Int32) (se : Nat → Int64) (un : Int32) : ∃ row2 left2 o2 fa2 fb2 fo2 se2 un2, fX8_goes mem row wide lost left k0 k1 k2 k3 k4 k5 fo se un (nI m) 1 (nI v) = some (o2, row2, nI l.length, 0, left2, nI m, 1, nI v, o2, fa2, fb2, fo2, se2, un2) ∧ o2 = nI (OL nb l rm m).length ∧ (v < (OL nb l rm m).length → ∀ p, p < l.length → fo2 p = nI (((OL nb l rm m).getD v []).getD p 0)) :=
  h.goes hm (Pst := fun n o _ _ fo _ _ => o = nI n ∧ (v < n → ∀ p, p < l.length → fo p = nI (((OL nb l rm m).getD v []).getD p 0))) (fun n o fa fb fo se un row hn hP hr hl _ _ => by
    obtain ⟨rfl, hP2⟩ := hP
    by_cases e : n = v
    · obtain ⟨fo2, f1, f2⟩ := finds (row := row) h.len (nI n) fa fb 0 fo
      refine ⟨nI (n + 1), nI n, 0, fo2, se, un, ?_, rfl, fun _ p hp => ?_⟩
      · rw [fX8_visits, if_pos rfl, if_eq_y e, fX8_visits_34, f1, ob3_some, fX8_visits_39, if_neg (by decide), fX8_visits_83, if_neg (by decide), fX8_visits_121, if_neg (by decide), nI_s]
      · rw [f2 p hp, hr p (by omega), e]
    · refine ⟨nI (n + 1), fa, fb, fo, se, un, ?_, rfl, fun q => hP2 (by omega)⟩
      rw [fX8_visits, if_pos rfl, if_eq_n e (by omega) hv, fX8_visits_19, if_neg (by decide), fX8_visits_39, if_neg (by decide), fX8_visits_83, if_neg (by decide), fX8_visits_121, if_neg (by decide), nI_s]) row wide lost left k0 k1 k2 k3 k4 k5 fo se un ⟨rfl, fun q => absurd q (by omega)⟩
theorem OL_nodup (nb : Nat → Int) (l : List Nat) (rm m : Nat) : (OL nb l rm m).Nodup := (ords_nodup rm _ _ _).filter _
theorem nodup_getD {L : List (List Nat)} (h : L.Nodup) {i j : Nat} (hi : i < L.length) (hj : j < L.length) (e : L.getD i [] = L.getD j []) : i = j := by
  rw [List.getD_eq_getElem?_getD, List.getD_eq_getElem?_getD, List.getElem?_eq_getElem hi, List.getElem?_eq_getElem hj] at e
  exact (List.getElem_inj h).mp e
/-- the first place of the plate's own row -/
def rkP (L : List (List Nat)) (l : List Nat) (n : Nat) (r : Int32) : Prop := (∃ k, k < n ∧ L.getD k [] = l ∧ r = nI k) ∨ ((∀ k, k < n → ¬ L.getD k [] = l) ∧ r = -1)
theorem VW.mRank (h : VW numbers cells rows sizes rooms mem kn a l rm nb) {m : Nat} (hm : m < 8) (row : Nat → Int32) (wide lost : Int32) (left : Nat → Int32) (k0 k1 k2 k3 k4 : Int32) (k5 : Int64) (fo : Nat → Int32) (se : Nat → Int64) (un : Int32) : ∃ row2 left2 o2 fa2 fb2 fo2 se2 un2, fX8_goes mem row wide lost left k0 k1 k2 k3 k4 k5 fo se un (nI m) 2 0 = some (o2, row2, nI l.length, 0, left2, nI m, 2, 0, o2, fa2, fb2, fo2, se2, un2) ∧ o2 = nI (OL nb l rm m).length ∧ rkP (OL nb l rm m) l (OL nb l rm m).length fa2 :=
  h.goes hm (Pst := fun n o fa _ _ _ _ => o = nI n ∧ rkP (OL nb l rm m) l n fa) (fun n o fa fb fo se un row hn hP hr hl hR h3 => by
    obtain ⟨rfl, hP2⟩ := hP
    have fp := mFarP h.R hR hl h.mt hr
    have u8 := unl_le (x := l) (y := (OL nb l rm m).getD n []) h.len
    have u0 := unl_0 (x := l) (y := (OL nb l rm m).getD n []) hl.symm
    by_cases e : (OL nb l rm m).getD n [] = l
    · obtain ⟨fo2, f1, f2⟩ := finds (row := row) h.len (nI n) fa fb 0 fo
      refine ⟨nI (n + 1), nI n, 0, fo2, se, un, ?_, rfl, Or.inl ⟨n, by omega, e, rfl⟩⟩
      rw [fX8_visits, if_neg (by decide), fX8_visits_19, if_pos rfl, fp, Option.bind_some, if_pos (show nI (unl l ((OL nb l rm m).getD n [])) = 0 by rw [u0.mpr e.symm]; rfl), fX8_visits_34, f1, ob3_some, fX8_visits_39, if_neg (by decide), fX8_visits_83, if_neg (by decide), fX8_visits_121, if_neg (by decide), nI_s]
    · refine ⟨nI (n + 1), fa, fb, fo, se, un, ?_, rfl, ?_⟩
      · rw [fX8_visits, if_neg (by decide), fX8_visits_19, if_pos rfl, fp, Option.bind_some, if_neg (show ¬ nI (unl l ((OL nb l rm m).getD n [])) = 0 from nI_ne (b := 0) (fun q => e (u0.mp q).symm) (by omega) (by omega)), fX8_visits_39, if_neg (by decide), fX8_visits_83, if_neg (by decide), fX8_visits_121, if_neg (by decide), nI_s]
      · rcases hP2 with ⟨k, g1, g2, g3⟩ | ⟨g1, g2⟩
        · exact Or.inl ⟨k, by omega, g2, g3⟩
        · refine Or.inr ⟨fun k hk => ?_, g2⟩
          by_cases q : k = n
          · rw [q]; exact e
          · exact g1 k (by omega)) row wide lost left k0 k1 k2 k3 k4 k5 fo se un ⟨rfl, Or.inr ⟨fun k hk => absurd hk (by omega), rfl⟩⟩
/-- the best -/
theorem VW.mBest (h : VW numbers cells rows sizes rooms mem kn a l rm nb) {m w : Nat} (hm : m < 8) (hw : w ≤ 3) (h9 : (OL nb l rm m).length ≤ 40320) (row : Nat → Int32) (wide lost : Int32) (left : Nat → Int32) (k0 k1 k2 k3 k4 : Int32) (k5 : Int64) (fo : Nat → Int32) (se : Nat → Int64) (un : Int32) : ∃ row2 left2 o2 fa2 fb2 fo2 se2 un2, fX8_goes mem row wide lost left k0 k1 k2 k3 k4 k5 fo se un (nI m) 3 (nI w) = some (o2, row2, nI l.length, 0, left2, nI m, 3, nI w, o2, fa2, fb2, fo2, se2, un2) ∧ o2 = nI (OL nb l rm m).length ∧ fa2 = rK (bI (vB nb w) (OL nb l rm m) (OL nb l rm m).length) ∧ (¬ bI (vB nb w) (OL nb l rm m) (OL nb l rm m).length = 99999 → fb2 = i64 (vB nb w ((OL nb l rm m).getD (bI (vB nb w) (OL nb l rm m) (OL nb l rm m).length) []))) :=
  h.goes hm (Pst := fun n o fa fb _ _ _ => o = nI n ∧ fa = rK (bI (vB nb w) (OL nb l rm m) n) ∧ (¬ bI (vB nb w) (OL nb l rm m) n = 99999 → fb = i64 (vB nb w ((OL nb l rm m).getD (bI (vB nb w) (OL nb l rm m) n) [])))) (fun n o fa fb fo se un row hn hP hr hl hR h3 => by
    obtain ⟨rfl, rfl, hP3⟩ := hP
    have bl := bI_lt (vB nb w) (OL nb l rm m) n (by omega)
    have vb := h.valueBy hw hR h3 hr
    rw [hl] at vb
    have v1 := h.vB_bd hw hR h3
    obtain ⟨fo2, f1, f2⟩ := finds (row := row) h.len (nI n) (rK (bI (vB nb w) (OL nb l rm m) n)) fb (i64 (vB nb w ((OL nb l rm m).getD n []))) fo
    have take : fX8_visits_71 mem row (nI l.length) 0 3 (nI w) (nI n) (rK (bI (vB nb w) (OL nb l rm m) n)) fb fo se un = some (nI (n + 1), nI n, i64 (vB nb w ((OL nb l rm m).getD n [])), fo2, se, un) := by
      rw [fX8_visits_71, vb, Option.bind_some, f1, ob3_some, fX8_visits_83, if_neg (by decide), fX8_visits_121, if_neg (by decide), nI_s]
    have en : rK n = nI n := by unfold rK; rw [if_neg (by omega)]
    by_cases e : bI (vB nb w) (OL nb l rm m) n = 99999
    · refine ⟨nI (n + 1), nI n, i64 (vB nb w ((OL nb l rm m).getD n [])), fo2, se, un, ?_, rfl, ?_, fun _ => ?_⟩
      · rw [fX8_visits, if_neg (by decide), fX8_visits_19, if_neg (by decide), fX8_visits_39, if_pos rfl, if_pos ((rK_m1 (by omega)).mpr e)]
        exact take
      · rw [bI, if_pos e, en]
      · rw [bI, if_pos e]
    · have hb := hP3 e
      obtain ⟨g1, g2, g3⟩ := h.olM (m := m) (show bI (vB nb w) (OL nb l rm m) n < (OL nb l rm m).length by omega)
      have v2 := h.vB_bd hw g2 g3
      have hc : lg_cmp (i64 (vB nb w ((OL nb l rm m).getD n []))) fb ≤ 0 ↔ vB nb w ((OL nb l rm m).getD n []) ≤ vB nb w ((OL nb l rm m).getD (bI (vB nb w) (OL nb l rm m) n) []) := by
        rw [lg_cmp_le, hb, i64_le ⟨by omega, by omega⟩ ⟨by omega, by omega⟩]
      by_cases c : vB nb w ((OL nb l rm m).getD n []) ≤ vB nb w ((OL nb l rm m).getD (bI (vB nb w) (OL nb l rm m) n) [])
      · refine ⟨nI (n + 1), rK (bI (vB nb w) (OL nb l rm m) n), fb, fo, se, un, ?_, rfl, ?_, fun _ => ?_⟩
        · rw [fX8_visits, if_neg (by decide), fX8_visits_19, if_neg (by decide), fX8_visits_39, if_pos rfl, if_neg (fun q => e ((rK_m1 (by omega)).mp q)), vb, Option.bind_some, if_pos (hc.mpr c), fX8_visits_83, if_neg (by decide), fX8_visits_121, if_neg (by decide), nI_s]
        · rw [bI, if_neg e, if_pos c]
        · rw [bI, if_neg e, if_pos c]; exact hb
      · refine ⟨nI (n + 1), nI n, i64 (vB nb w ((OL nb l rm m).getD n [])), fo2, se, un, ?_, rfl, ?_, fun _ => ?_⟩
        · rw [fX8_visits, if_neg (by decide), fX8_visits_19, if_neg (by decide), fX8_visits_39, if_pos rfl, if_neg (fun q => e ((rK_m1 (by omega)).mp q)), vb, Option.bind_some, if_neg (fun q => c (hc.mp q))]
          exact take
        · rw [bI, if_neg e, if_neg c, en]
        · rw [bI, if_neg e, if_neg c]) row wide lost left k0 k1 k2 k3 k4 k5 fo se un ⟨rfl, rfl, fun q => absurd rfl q⟩
/-- the nearest -/
def vN (l x : List Nat) : Int := -(unl l x : Int)
theorem VW.mNear (h : VW numbers cells rows sizes rooms mem kn a l rm nb) {m : Nat} (hm : m < 8) (h9 : (OL nb l rm m).length ≤ 40320) (row : Nat → Int32) (wide lost : Int32) (left : Nat → Int32) (k0 k1 k2 k3 k4 : Int32) (k5 : Int64) (fo : Nat → Int32) (se : Nat → Int64) (un : Int32) : ∃ row2 left2 o2 fa2 fb2 fo2 se2 un2, fX8_goes mem row wide lost left k0 k1 k2 k3 k4 k5 fo se un (nI m) 4 0 = some (o2, row2, nI l.length, 0, left2, nI m, 4, 0, o2, fa2, fb2, fo2, se2, un2) ∧ o2 = nI (OL nb l rm m).length ∧ fa2 = rK (bI (vN l) (OL nb l rm m) (OL nb l rm m).length) ∧ (¬ bI (vN l) (OL nb l rm m) (OL nb l rm m).length = 99999 → fb2 = lN (unl l ((OL nb l rm m).getD (bI (vN l) (OL nb l rm m) (OL nb l rm m).length) []))) :=
  h.goes hm (Pst := fun n o fa fb _ _ _ => o = nI n ∧ fa = rK (bI (vN l) (OL nb l rm m) n) ∧ (¬ bI (vN l) (OL nb l rm m) n = 99999 → fb = lN (unl l ((OL nb l rm m).getD (bI (vN l) (OL nb l rm m) n) [])))) (fun n o fa fb fo se un row hn hP hr hl hR h3 => by
    obtain ⟨rfl, rfl, hP3⟩ := hP
    have bl := bI_lt (vN l) (OL nb l rm m) n (by omega)
    have fp := mFarP h.R hR hl h.mt hr
    have u8 := unl_le (x := l) (y := (OL nb l rm m).getD n []) h.len
    obtain ⟨fo2, f1, f2⟩ := finds (row := row) h.len (nI n) (rK (bI (vN l) (OL nb l rm m) n)) fb (lN (unl l ((OL nb l rm m).getD n []))) fo
    have take : fX8_visits_112 mem row (nI l.length) 0 4 (nI n) (rK (bI (vN l) (OL nb l rm m) n)) fb fo se un = some (nI (n + 1), nI n, lN (unl l ((OL nb l rm m).getD n [])), fo2, se, un) := by
      rw [fX8_visits_112, fp, Option.bind_some, nI64 (by omega), f1, ob3_some, fX8_visits_121, if_neg (by decide), nI_s]
    have en : rK n = nI n := by unfold rK; rw [if_neg (by omega)]
    by_cases e : bI (vN l) (OL nb l rm m) n = 99999
    · refine ⟨nI (n + 1), nI n, lN (unl l ((OL nb l rm m).getD n [])), fo2, se, un, ?_, rfl, ?_, fun _ => ?_⟩
      · rw [fX8_visits, if_neg (by decide), fX8_visits_19, if_neg (by decide), fX8_visits_39, if_neg (by decide), fX8_visits_83, if_pos rfl, if_pos ((rK_m1 (by omega)).mpr e)]
        exact take
      · rw [bI, if_pos e, en]
      · rw [bI, if_pos e]
    · have hb := hP3 e
      have u9 := unl_le (x := l) (y := (OL nb l rm m).getD (bI (vN l) (OL nb l rm m) n) []) h.len
      have hc : 0 ≤ lg_cmp (lN (unl l ((OL nb l rm m).getD n []))) fb ↔ vN l ((OL nb l rm m).getD n []) ≤ vN l ((OL nb l rm m).getD (bI (vN l) (OL nb l rm m) n) []) := by
        rw [lg_cmp_ge, hb, lN_le' (by omega) (by omega)]
        unfold vN
        omega
      by_cases c : vN l ((OL nb l rm m).getD n []) ≤ vN l ((OL nb l rm m).getD (bI (vN l) (OL nb l rm m) n) [])
      · refine ⟨nI (n + 1), rK (bI (vN l) (OL nb l rm m) n), fb, fo, se, un, ?_, rfl, ?_, fun _ => ?_⟩
        · rw [fX8_visits, if_neg (by decide), fX8_visits_19, if_neg (by decide), fX8_visits_39, if_neg (by decide), fX8_visits_83, if_pos rfl, if_neg (fun q => e ((rK_m1 (by omega)).mp q)), fp, Option.bind_some, nI64 (by omega), if_pos (hc.mpr c), fX8_visits_121, if_neg (by decide), nI_s]
        · rw [bI, if_neg e, if_pos c]
        · rw [bI, if_neg e, if_pos c]; exact hb
      · refine ⟨nI (n + 1), nI n, lN (unl l ((OL nb l rm m).getD n [])), fo2, se, un, ?_, rfl, ?_, fun _ => ?_⟩
        · rw [fX8_visits, if_neg (by decide), fX8_visits_19, if_neg (by decide), fX8_visits_39, if_neg (by decide), fX8_visits_83, if_pos rfl, if_neg (fun q => e ((rK_m1 (by omega)).mp q)), fp, Option.bind_some, nI64 (by omega), if_neg (fun q => c (hc.mp q))]
          exact take
        · rw [bI, if_neg e, if_neg c, en]
        · rw [bI, if_neg e, if_neg c]) row wide lost left k0 k1 k2 k3 k4 k5 fo se un ⟨rfl, rfl, fun q => absurd rfl q⟩
end
