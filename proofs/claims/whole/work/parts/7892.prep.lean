/-! what the class prepares; its rows read again -/
theorem unt_0 : ∀ (l : List Nat) (i : Nat), unt 0 i l = l
  | [], _ => rfl
  | t :: r, i => by
    unfold unt
    rw [Nat.zero_testBit, if_neg (by decide), unt_0 r (i + 1)]
theorem ordL_srt {l : List Nat} (hR : R16 l) (rm : Nat) : ordL rm (srt l) = ordL rm l := by
  unfold ordL
  rw [srt_len hR.lt]
  congr 1
  funext t
  exact srt_count hR.lt t
theorem ordL_mem {rm : Nat} {l x : List Nat} (hR : R16 l) (h : x ∈ ordL rm l) : x.length = l.length ∧ R16 x ∧ ∀ t ∈ x, t ∈ l := by
  obtain ⟨y, e1, e2, e3⟩ := ords_mem rm _ _ _ x h
  have e : x = y := by rw [e1]; rfl
  subst e
  refine ⟨e2, ⟨fun t ht => (e3 t ht).1, by rw [e2]; exact hR.2⟩, fun t ht => List.count_pos_iff.mp (e3 t ht).2⟩
theorem getD_memL {L : List (List Nat)} {n : Nat} (h : n < L.length) : L.getD n [] ∈ L := by
  rw [List.getD_eq_getElem?_getD, List.getElem?_eq_getElem h]
  exact List.getElem_mem h
section
variable {numbers cells rows sizes rooms mem : Nat → Int32} {kn a : Nat} {l : List Nat} {rm : Nat} {nb : Nat → Int}
def RO (nb : Nat → Int) (kn : Nat) (l : List Nat) (O : List (List Nat)) (rn : Nat) (rw0 : Nat → Int64) : Prop := O.length ≤ rn ∧ rn ≤ 40320 ∧ (∀ k, k < O.length → rw0 k = enc (ceQ nb) (O.getD k [])) ∧ ∀ x ∈ O, x.length = l.length ∧ R16 x ∧ ∀ t ∈ x, t < 4 * kn
theorem VW.ordM (h : VW numbers cells rows sizes rooms mem kn a l rm nb) : ∀ x ∈ ordL rm l, x.length = l.length ∧ R16 x ∧ ∀ t ∈ x, t < 4 * kn := fun x hx => by
  obtain ⟨h1, h2, h3⟩ := ordL_mem h.R hx
  exact ⟨h1, h2, fun t ht => h.lt t (h3 t ht)⟩
theorem VW.prep (h : VW numbers cells rows sizes rooms mem kn a l rm nb) {rn0 : Nat} {rw0 : Nat → Int64} {size ready pool plies room : Int32} (hO : PO cells rn0 rw0 size ready pool plies room) : ∃ (lim0 rn : Nat) (rw2 : Nat → Int64), fX0_prepare lim0 rn0 rw0 size ready pool plies room cells rows sizes rooms (nI a) = some (rn, rw2, nI (ordL rm l).length, 1, pk (srt l), nI l.length, nI rm) ∧ RO nb kn l (ordL rm l) rn rw2 ∧ PO cells rn rw2 (nI (ordL rm l).length) 1 (pk (srt l)) (nI l.length) (nI rm) ∧ pot rn0 + lim0 ≤ pot rn := by
  have l8 := h.len
  have r8 := h.rm8
  have sl := srt_len h.R.lt
  have sR := srt_R h.R
  have sS : (srt l).Pairwise (· ≤ ·) := srtL_sorted l 16 0
  have sM : ∀ t ∈ srt l, t < 4 * kn := fun t ht => h.lt t ((srt_perm h.R.lt).mem_iff.mp ht)
  have eO := ordL_srt h.R rm
  have pre : fX0_prepare = fX0_prepare := rfl
  -- the rows, once laid or kept, are as they must be
  have fin : ∀ (lim0 rn : Nat) (rw2 : Nat → Int64), rn ≤ 40320 → (ordL rm l).length ≤ rn → (∀ k, k < (ordL rm l).length → rw2 k = enc (ceQ nb) ((ordL rm l).getD k [])) → RO nb kn l (ordL rm l) rn rw2 ∧ PO cells rn rw2 (nI (ordL rm l).length) 1 (pk (srt l)) (nI l.length) (nI rm) := by
    intro lim0 rn rw2 h1 h2 h3
    refine ⟨⟨h2, h1, h3, h.ordM⟩, h1, Or.inr ⟨rfl, srt l, rm, by omega, sR.1, sS, r8.1, r8.2, rfl, by rw [sl], rfl, by rw [eO], by rw [eO]; exact h2, fun k hk => ?_⟩⟩
    rw [eO] at hk ⊢
    rw [h3 k hk, enc, h.shp_c (h.ordM _ (getD_memL hk)).2.2]
  have anew : ∃ (lim0 rn : Nat) (rw2 : Nat → Int64), fX0_prepare_50 lim0 rn0 rw0 size ready pool plies room cells sizes rooms (nI a) (pk (srt l)) = some (rn, rw2, nI (ordL rm l).length, 1, pk (srt l), nI l.length, nI rm) ∧ RO nb kn l (ordL rm l) rn rw2 ∧ PO cells rn rw2 (nI (ordL rm l).length) 1 (pk (srt l)) (nI l.length) (nI rm) ∧ pot rn0 + lim0 ≤ pot rn := by
    have mr := cMost_loop sR (srt l).length FU 0 1 0 (by omega) (FU_gt (by omega)) (by simp [potL])
    obtain ⟨s2, mp⟩ := mrL_pot (srt l) (srt l).length 0 1 0 (by simp [potL])
    have mS := potS_mem (by omega) mp
    have m4 := potS_le _ mS
    have mf := mrL_full sR.1 sS (srt l).length 0 1 0 (by omega) rfl (fun q => absurd q (by omega))
    have ml : (ordL rm l).length ≤ mrL (srt l) (srt l).length 0 1 0 := by
      rw [mf, ← eO]
      exact ords_full rm _ _ _
    generalize mrL (srt l) (srt l).length 0 1 0 = M at mr mS m4 ml
    have lay : ∀ (lim0 rn : Nat) (rw1 : Nat → Int64), (ordL rm l).length ≤ rn → rn ≤ 40320 → ∃ rw2, fX0_prepare_97 lim0 rn rw1 0 ready (pk (srt l)) (nI l.length) (nI rm) cells = some (rn, rw2, nI (ordL rm l).length, 1, pk (srt l), nI l.length, nI rm) ∧ ∀ k, k < (ordL rm l).length → rw2 k = enc (ceQ nb) ((ordL rm l).getD k []) := by
      intro lim0 rn rw1 h1 h2
      obtain ⟨rw2, q1, q2⟩ := h.layA sR sS sM (O := ordL rm (srt l)) (rn := rn) (by rw [eO]; exact h1) h2 (srt l).length RD (cntOf (srt l)) 0 [] rw1 0 [] (by simp) (show (srt l).length < 10 by omega) ⟨by simp, by simp⟩ (by simp) (by omega) (fun t => by rw [unt_0]; rfl) (by rw [List.drop_zero, List.append_nil]; rfl) (fun j hj => absurd hj (by omega))
      rw [show ords rm (srt l).length (cntOf (srt l)) [] = ordL rm (srt l) from rfl, eO, Nat.zero_add, sl] at q1
      rw [show ords rm (srt l).length (cntOf (srt l)) [] = ordL rm (srt l) from rfl, eO, Nat.zero_add] at q2
      refine ⟨rw2, ?_, q2⟩
      rw [fX0_prepare_97, show fX0_lay RD rn rw1 0 (pk (srt l)) (nI l.length) (nI rm) cells 0 0 0 0 0 0 = _ from q1, ob2_some]
    have mr' : fX0_mostRows (pk (srt l)) (nI l.length) = some (nI M) := by
      rw [fX0_mostRows]
      rw [sl] at mr
      exact mr
    by_cases c : M ≤ rn0
    · obtain ⟨rw2, q1, q2⟩ := lay 0 rn0 rw0 (by omega) hO.1
      obtain ⟨f1, f2⟩ := fin 0 rn0 rw2 hO.1 (by omega) q2
      refine ⟨0, rn0, rw2, ?_, f1, f2, by omega⟩
      have := hO.1
      rw [fX0_prepare_50, h.plies, Option.bind_some, h.room, Option.bind_some, mr', Option.bind_some, if_le_y c (by omega)]
      exact q1
    · obtain ⟨rw2, q1, q2⟩ := lay M M (fun _ => 0) ml m4
      obtain ⟨f1, f2⟩ := fin M M rw2 m4 ml q2
      refine ⟨M, M, rw2, ?_, f1, f2, pot_gain (by omega) mS⟩
      rw [fX0_prepare_50, h.plies, Option.bind_some, h.room, Option.bind_some, mr', Option.bind_some, if_le_n (by omega) (by omega), nn_ok (Nat.le_refl _) (by omega), nI_clamp' (by omega)]
      exact q1
  obtain ⟨lim0, rn, rw2, n1, n2, n3, n4⟩ := anew
  have red : ∀ lim0, fX0_prepare lim0 rn0 rw0 size ready pool plies room cells rows sizes rooms (nI a) = (if ready = 0 then fX0_prepare_50 lim0 rn0 rw0 size ready pool plies room cells sizes rooms (nI a) (pk (srt l)) else (if pool = pk (srt l) then (if plies = nI l.length then (if room = nI rm then some (rn0, rw0, size, ready, pool, plies, room) else fX0_prepare_50 lim0 rn0 rw0 size ready pool plies room cells sizes rooms (nI a) (pk (srt l))) else fX0_prepare_50 lim0 rn0 rw0 size ready pool plies room cells sizes rooms (nI a) (pk (srt l))) else fX0_prepare_50 lim0 rn0 rw0 size ready pool plies room cells sizes rooms (nI a) (pk (srt l)))) := by
    intro lim0
    rw [fX0_prepare, h.row, Option.bind_some, h.plies, Option.bind_some, cSort h.R, Option.bind_some, Option.bind_some, h.room, Option.bind_some]
  rcases hO.2 with q | ⟨q, l2, rm2, p1, p2, p3, p4, p5, p6, p7, p8, p9, p10, p11⟩
  · exact ⟨lim0, rn, rw2, by rw [red, if_pos q]; exact n1, n2, n3, n4⟩
  · have q' : ¬ ready = 0 := by rw [q]; decide
    by_cases c1 : pool = pk (srt l)
    · by_cases c2 : plies = nI l.length
      · by_cases c3 : room = nI rm
        · have e1 : l2.length = l.length := (nI_inj (by omega) (by omega)).mp (p7.symm.trans c2)
          have e2 : l2 = srt l := pk_inj (fun t ht => by have := p2 t ht; omega) sR.lt (by rw [e1, sl]) p1 (p6.symm.trans c1)
          have e3 : rm2 = rm := (nI_inj (by omega) (by omega)).mp (p8.symm.trans c3)
          subst e3
          rw [e2, eO] at p9 p10 p11
          obtain ⟨f1, f2⟩ := fin 0 rn0 rw0 hO.1 p10 (fun k hk => by rw [p11 k hk, enc, h.shp_c (h.ordM _ (getD_memL hk)).2.2])
          exact ⟨0, rn0, rw0, by rw [red, if_neg q', if_pos c1, if_pos c2, if_pos c3, p9, q, c1, c2, c3], f1, f2, by omega⟩
        · exact ⟨lim0, rn, rw2, by rw [red, if_neg q', if_pos c1, if_pos c2, if_neg c3]; exact n1, n2, n3, n4⟩
      · exact ⟨lim0, rn, rw2, by rw [red, if_neg q', if_pos c1, if_neg c2]; exact n1, n2, n3, n4⟩
    · exact ⟨lim0, rn, rw2, by rw [red, if_neg q', if_neg c1]; exact n1, n2, n3, n4⟩
/-- rows read again -/
theorem RO.among {O : List (List Nat)} {rn : Nat} {rw0 : Nat → Int64} (h : RO nb kn l O rn rw0) {m k : Nat} (hm : m < 8) (hk : k < O.length) : fX0_isAmong rn rw0 (nI m) (nI k) = some (b32 (soB (ceQ nb) (O.getD k []) m)) := by
  obtain ⟨h1, h2, h3, h4⟩ := h
  obtain ⟨g1, g2, g3⟩ := h4 _ (getD_memL hk)
  have so : (nI (shp (ceQ nb) (O.getD k [])) &&& nI m = nI m) ↔ soB (ceQ nb) (O.getD k []) m = true := so_and _ _ _ m hm
  rw [fX0_isAmong, if_neg (show ¬ nI k < 0 from fun q => by have := (nI_lt' (b := 0) (by omega) (by omega)).mp q; omega), if_le_n (by omega) (by omega), chkN (by omega) (by omega), nI_clamp' (by omega), h3 k hk, enc_lN, enc_shape g2 (shp_lt _ _)]
  by_cases c : soB (ceQ nb) (O.getD k []) m = true
  · rw [if_pos (so.mpr c), c]; rfl
  · rw [if_neg (fun q => c (so.mp q)), Bool.eq_false_iff.mpr c]; rfl
theorem RO.row {O : List (List Nat)} {rn : Nat} {rw0 : Nat → Int64} (h : RO nb kn l O rn rw0) {k : Nat} (hk : k < O.length) : fX0_rowAt rn rw0 (nI k) = some (pk (O.getD k [])) := by
  obtain ⟨h1, h2, h3, h4⟩ := h
  obtain ⟨g1, g2, g3⟩ := h4 _ (getD_memL hk)
  rw [fX0_rowAt, if_neg (show ¬ nI k < 0 from fun q => by have := (nI_lt' (b := 0) (by omega) (by omega)).mp q; omega), if_lt_y (by omega) (by omega), chkN (by omega) (by omega), nI_clamp' (by omega), h3 k hk, enc_lN, enc_row g2]
end
/-- how many of those that are so stand ahead -/
def flt (O : List (List Nat)) (p : List Nat → Bool) (n : Nat) : Nat := ((O.take n).filter p).length
theorem take_sL {O : List (List Nat)} {k : Nat} (h : k < O.length) : O.take (k + 1) = O.take k ++ [O.getD k []] := by
  rw [List.take_succ_eq_append_getElem h, List.getD_eq_getElem?_getD, List.getElem?_eq_getElem h]
  rfl
theorem flt_s {O : List (List Nat)} {p : List Nat → Bool} {n : Nat} (h : n < O.length) : flt O p (n + 1) = flt O p n + if p (O.getD n []) then 1 else 0 := by
  unfold flt
  rw [take_sL h, List.filter_append, List.length_append]
  by_cases c : p (O.getD n []) = true
  · rw [if_pos c, List.filter_cons, if_pos c]; rfl
  · rw [if_neg c, List.filter_cons, if_neg c]; rfl
theorem flt_all (O : List (List Nat)) (p : List Nat → Bool) : flt O p O.length = (O.filter p).length := by
  unfold flt
  rw [List.take_length]
theorem flt_le (O : List (List Nat)) (p : List Nat → Bool) (n : Nat) : flt O p n ≤ n := by
  unfold flt
  have := List.length_filter_le p (O.take n)
  rw [List.length_take] at this
  omega
theorem flt_at {O : List (List Nat)} {p : List Nat → Bool} {n : Nat} (h : n < O.length) (hp : p (O.getD n []) = true) : flt O p n < (O.filter p).length ∧ (O.filter p).getD (flt O p n) [] = O.getD n [] := by
  have e : O.filter p = (O.take n).filter p ++ (O.getD n [] :: (O.drop (n + 1)).filter p) := by
    have : O = O.take n ++ (O.getD n [] :: O.drop (n + 1)) := by
      have h2 : O.drop n = O.getD n [] :: O.drop (n + 1) := by
        rw [List.drop_eq_getElem_cons h, List.getD_eq_getElem?_getD, List.getElem?_eq_getElem h]
        rfl
      rw [← h2, List.take_append_drop]
    conv => lhs; rw [this]
    rw [List.filter_append, List.filter_cons, if_pos hp]
  unfold flt
  rw [e]
  constructor
  · rw [List.length_append, List.length_cons]; omega
  · rw [List.getD_eq_getElem?_getD, List.getElem?_append_right (Nat.le_refl _), Nat.sub_self]
    rfl
section
variable {kn : Nat} {l : List Nat} {nb : Nat → Int} {O : List (List Nat)} {rn : Nat} {rw0 : Nat → Int64}
theorem RO.place_loop (h : RO nb kn l O rn rw0) {m e : Nat} (hm : m < 8) (he : e ≤ O.length) : ∀ (k n i : Nat), i + k = e → k < n → fX0_placeAt_5 n rn rw0 (nI m) (nI e) (nI (flt O (fun x => soB (ceQ nb) x m) i)) (nI i) = some (nI (flt O (fun x => soB (ceQ nb) x m) e)) := by
  have h1 := h.1
  have h2 := h.2.1
  intro k
  induction k with
  | zero =>
    intro n i hi hn
    obtain ⟨n, rfl, -⟩ := succ_of hn
    rw [fX0_placeAt_5, if_le_y (by omega) (by omega), show i = e by omega]
  | succ k ih =>
    intro n i hi hn
    obtain ⟨n, rfl, hn'⟩ := succ_of hn
    have fs := flt_s (p := fun x => soB (ceQ nb) x m) (show i < O.length by omega)
    have := ih n (i + 1) (by omega) (by omega)
    rw [fs] at this
    rw [fX0_placeAt_5, if_le_n (by omega) (by omega), h.among hm (by omega), Option.bind_some]
    simp only [fX0_placeAt_24, nI_s]
    cases c : soB (ceQ nb) (O.getD i []) m with
    | false =>
      rw [if_pos (show b32 false = 0 from rfl)]
      rw [if_neg (by rw [c]; decide), Nat.add_zero] at this
      exact this
    | true =>
      rw [if_neg (show ¬ b32 true = 0 by decide)]
      rw [if_pos c] at this
      exact this
theorem RO.place (h : RO nb kn l O rn rw0) {m e : Nat} (hm : m < 8) (he : e ≤ O.length) : fX0_placeAt rn rw0 (nI m) (nI e) = some (nI (flt O (fun x => soB (ceQ nb) x m) e)) := by
  have h1 := h.1
  have h2 := h.2.1
  have := h.place_loop hm he e FU 0 (by omega) (FU_gt (by omega))
  rw [fX0_placeAt]
  exact this
theorem RO.find_loop (h : RO nb kn l O rn rw0) {m v : Nat} (hm : m < 8) (hv : v < 2147483648) : ∀ (k n i : Nat), i + k = O.length → k < n → flt O (fun x => soB (ceQ nb) x m) i ≤ v → (v < (O.filter (fun x => soB (ceQ nb) x m)).length ∧ ∃ p, p < O.length ∧ O.getD p [] = (O.filter (fun x => soB (ceQ nb) x m)).getD v [] ∧ fX0_find_5 n rn rw0 (nI O.length) (nI m) (nI v) (nI (flt O (fun x => soB (ceQ nb) x m) i)) (nI i) = some (nI p)) ∨ (¬ v < (O.filter (fun x => soB (ceQ nb) x m)).length ∧ fX0_find_5 n rn rw0 (nI O.length) (nI m) (nI v) (nI (flt O (fun x => soB (ceQ nb) x m) i)) (nI i) = some (-1)) := by
  have h1 := h.1
  have h2 := h.2.1
  intro k
  induction k with
  | zero =>
    intro n i hi hn hf
    obtain ⟨n, rfl, -⟩ := succ_of hn
    right
    rw [show i = O.length by omega, flt_all] at hf
    exact ⟨by omega, by rw [fX0_find_5, if_le_y (by omega) (by omega)]⟩
  | succ k ih =>
    intro n i hi hn hf
    obtain ⟨n, rfl, hn'⟩ := succ_of hn
    have il : i < O.length := by omega
    have fs := flt_s (p := fun x => soB (ceQ nb) x m) il
    have fl := flt_le O (fun x => soB (ceQ nb) x m) i
    rw [fX0_find_5, if_le_n (by omega) (by omega), h.among hm il, Option.bind_some]
    simp only [fX0_find_35, nI_s]
    cases c : soB (ceQ nb) (O.getD i []) m with
    | false =>
      rw [if_neg (by rw [c]; decide)] at fs
      simp only [Nat.add_zero] at fs
      rw [if_pos (show b32 false = 0 from rfl), ← fs]
      exact ih n (i + 1) (by omega) (by omega) (by omega)
    | true =>
      rw [if_pos c] at fs
      rw [if_neg (show ¬ b32 true = 0 by decide)]
      obtain ⟨a1, a2⟩ := flt_at (p := fun x => soB (ceQ nb) x m) il c
      by_cases e : flt O (fun x => soB (ceQ nb) x m) i = v
      · left
        rw [if_eq_y e]
        exact ⟨by omega, i, il, by rw [← e, a2], rfl⟩
      · rw [if_eq_n e (by omega) (by omega), ← fs]
        exact ih n (i + 1) (by omega) (by omega) (by omega)
theorem RO.find (h : RO nb kn l O rn rw0) {m v : Nat} (hm : m < 8) (hv : v < 2147483648) : (v < (O.filter (fun x => soB (ceQ nb) x m)).length ∧ ∃ p, p < O.length ∧ O.getD p [] = (O.filter (fun x => soB (ceQ nb) x m)).getD v [] ∧ fX0_find rn rw0 (nI O.length) (nI m) (nI v) = some (nI p)) ∨ (¬ v < (O.filter (fun x => soB (ceQ nb) x m)).length ∧ fX0_find rn rw0 (nI O.length) (nI m) (nI v) = some (-1)) := by
  have h1 := h.1
  have h2 := h.2.1
  exact h.find_loop hm hv O.length FU 0 (by omega) (FU_gt (by omega)) (Nat.zero_le _)
end
