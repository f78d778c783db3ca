/-! unlike bends counted by both -/
theorem updL_id {T : Nat → Int64} {i : Nat} {x : Int64} (h : T i = x) : vp_updL T i x = T := by
  funext k
  by_cases e : k = i
  · rw [e, updL_same, h]
  · rw [updL_ne _ _ e]
theorem fillL_loop {v : Int64} {M : Nat} (hM : M ≤ 65536) : ∀ (k n i : Nat) (f : Nat → Int64), i + k = M → k < n → (∀ x, x < i → f x = v) → ∃ f2, fJ7_fill_d0a16_6 n M f v (nI i) (nI M) = some f2 ∧ ∀ x, x < M → f2 x = v := by
  intro k
  induction k with
  | zero =>
    intro n i f hi hn h
    obtain ⟨n, rfl, -⟩ := succ_of hn
    exact ⟨f, by rw [fJ7_fill_d0a16_6, if_le_y (by omega) (by omega)], fun x hx => h x (by omega)⟩
  | succ k ih =>
    intro n i f hi hn h
    obtain ⟨n, rfl, hn'⟩ := succ_of hn
    rw [fJ7_fill_d0a16_6, if_le_n (by omega) (by omega), chkN (by omega) (by omega), nI_clamp' (by omega), nI_s]
    exact ih n (i + 1) _ (by omega) (by omega) (fun x hx => by
      by_cases e : x = i
      · rw [e, updL_same]
      · rw [updL_ne _ _ e]; exact h x (by omega))
theorem fillL {M : Nat} (hM : M ≤ 65536) (f : Nat → Int64) : ∃ f2, fJ7_fill_d0a16 M f 0 = some f2 ∧ ∀ x, x < M → f2 x = 0 := by
  obtain ⟨f2, h1, h2⟩ := fillL_loop (v := 0) hM M FU 0 f (by omega) (FU_gt (by omega)) (fun x hx => absurd hx (by omega))
  exact ⟨f2, by rw [fJ7_fill_d0a16]; exact h1, h2⟩
section
variable {numbers cells rows sizes rooms mem : Nat → Int32} {kn a : Nat} {l : List Nat} {rm : Nat} {nb : Nat → Int}
theorem VW.dk_bd (h : VW numbers cells rows sizes rooms mem kn a l rm nb) {L : List (List Nat)} (hL : ∀ x ∈ L, x.length = l.length ∧ R16 x ∧ ∀ t ∈ x, t < 4 * kn) {n : Nat} (hn : n ≤ L.length) : ∀ x ∈ DK (kN nb) L n, x < 9223372036854775808 := fun x hx => by
  obtain ⟨i, h1, rfl⟩ := DK_mem _ _ n x hn hx
  obtain ⟨g1, g2, g3⟩ := hL _ (getD_memL h1)
  exact (h.kN_bd g2 g3).2
theorem VW.unl_loop (h : VW numbers cells rows sizes rooms mem kn a l rm nb) {O : List (List Nat)} {rn : Nat} {rw0 : Nat → Int64} (hO : RO nb kn l O rn rw0) {m q M : Nat} (hm : m < 8) (hM : M = 2 ^ q) (hM2 : M ≤ 65536) (hOM : O.length < M) (lim1 : Nat) : ∀ (k n i : Nat) (T : Nat → Int64), i + k = O.length → k < n → okT M T cH ((DK (kN nb) (O.filter (fun x => soB (ceQ nb) x m)) (flt O (fun x => soB (ceQ nb) x m) i)).map cK) → ∃ T2, fX0_unlikeBends_68 lim1 n rn rw0 M T (nI O.length) (nI l.length) cells (nI m) (nI (DK (kN nb) (O.filter (fun x => soB (ceQ nb) x m)) (flt O (fun x => soB (ceQ nb) x m) i)).length) (nI i) = some (nI (DK (kN nb) (O.filter (fun x => soB (ceQ nb) x m)) (O.filter (fun x => soB (ceQ nb) x m)).length).length, M, T2) := by
  have h1 := hO.1
  have h2 := hO.2.1
  intro k
  induction k with
  | zero =>
    intro n i T hi hn hT
    obtain ⟨n, rfl, -⟩ := succ_of hn
    refine ⟨T, ?_⟩
    rw [fX0_unlikeBends_68, if_le_y (by omega) (by omega), show i = O.length by omega, flt_all]
  | succ k ih =>
    intro n i T hi hn hT
    obtain ⟨n, rfl, hn'⟩ := succ_of hn
    have il : i < O.length := by omega
    have fs := flt_s (p := fun x => soB (ceQ nb) x m) il
    have fl := flt_le O (fun x => soB (ceQ nb) x m) i
    obtain ⟨g1, g2, g3⟩ := hO.2.2.2 _ (getD_memL il)
    have key := h.keyC g2 g3
    rw [g1] at key
    rw [fX0_unlikeBends_68, if_le_n (by omega) (by omega), hO.among hm il, Option.bind_some, hO.row il, Option.bind_some, key, Option.bind_some]
    simp only [fX0_unlikeBends_108, nI_s]
    cases c : soB (ceQ nb) (O.getD i []) m with
    | false =>
      rw [if_neg (by rw [c]; decide)] at fs
      simp only [Nat.add_zero] at fs
      rw [if_pos (show b32 false = 0 from rfl)]
      have := ih n (i + 1) T (by omega) (by omega)
      rw [fs] at this
      exact this hT
    | true =>
      rw [if_pos c] at fs
      obtain ⟨a1, a2⟩ := flt_at (p := fun x => soB (ceQ nb) x m) il c
      have dl := DK_len (kN nb) (O.filter (fun x => soB (ceQ nb) x m)) (flt O (fun x => soB (ceQ nb) x m) i)
      obtain ⟨kb1, kb2⟩ := h.kN_bd g2 g3
      have k0 := cK_0 kb2 kb1
      obtain ⟨j, hj⟩ := hT.stop (by rw [List.length_map]; omega) (cH (cK (kN nb (O.getD i [])))) (cK (kN nb (O.getD i [])))
      have hh := hT.has k0 hj
      have db := h.dk_bd (L := O.filter (fun x => soB (ceQ nb) x m)) (fun x hx => hO.2.2.2 x (List.mem_filter.mp hx).1) (n := flt O (fun x => soB (ceQ nb) x m) i) (by omega)
      have mm := map_mem (f := cK) (B := 9223372036854775808) (fun x y hx hy => cK_inj hx hy) db kb2
      rw [if_neg (show ¬ b32 true = 0 by decide), cNew hM hM2 k0 hj]
      have ihn := ih n (i + 1)
      rw [fs, DK, a2] at ihn
      by_cases e : T ((cH (cK (kN nb (O.getD i []))) + j) % M) = cK (kN nb (O.getD i []))
      · rw [if_pos (mm.mp (hh.mp e))] at ihn
        rw [if_pos e, ob2_some, if_pos rfl]
        exact ihn T (by omega) (by omega) hT
      · have nm : ¬ kN nb (O.getD i []) ∈ DK (kN nb) (O.filter (fun x => soB (ceQ nb) x m)) (flt O (fun x => soB (ceQ nb) x m) i) := fun q => e (hh.mpr (mm.mpr q))
        rw [if_neg nm] at ihn
        rw [if_neg e, ob2_some, if_neg (by decide)]
        exact ihn _ (by omega) (by omega) (hT.put k0 hj (hj.2.1.resolve_left e))
theorem slots_loop {rn sn : Nat} {rw0 seen : Nat → Int64} {plies v : Int32} {s : Nat} (hs : s ≤ 40320) : ∀ (k n q : Nat), q + k = 11 → k < n → ∃ q2, q2 ≤ 11 ∧ s + s / 2 ≤ 32 * 2 ^ q2 ∧ ∀ lim1, fX0_unlikeBends_6 lim1 n rn rw0 sn seen (nI s) plies cells v (nI (32 * 2 ^ q)) (nI q) = fX0_unlikeBends_38 lim1 rn rw0 sn seen (nI s) plies cells v (nI (32 * 2 ^ q2)) := by
  have pw : ∀ q, q < 12 → 32 * 2 ^ q ≤ 65536 ∧ 32 ≤ 32 * 2 ^ q := by decide +kernel
  intro k
  induction k with
  | zero =>
    intro n q hq hn
    obtain ⟨n, rfl, -⟩ := succ_of hn
    have e : q = 11 := by omega
    subst e
    refine ⟨11, by omega, by omega, fun lim1 => ?_⟩
    rw [fX0_unlikeBends_6, show (12 : Int32) = nI 12 from rfl, if_le_n (by omega) (by omega), lit_nI2, idiv_nI (by omega) (by omega), nI_add, if_le_y (by omega) (by omega)]
  | succ k ih =>
    intro n q hq hn
    obtain ⟨n, rfl, hn'⟩ := succ_of hn
    have p1 := pw q (by omega)
    by_cases c : s + s / 2 ≤ 32 * 2 ^ q
    · exact ⟨q, by omega, c, fun lim1 => by rw [fX0_unlikeBends_6, show (12 : Int32) = nI 12 from rfl, if_le_n (by omega) (by omega), lit_nI2, idiv_nI (by omega) (by omega), nI_add, if_le_y c (by omega)]⟩
    · obtain ⟨q2, a1, a2, a3⟩ := ih n (q + 1) (by omega) (by omega)
      refine ⟨q2, a1, a2, fun lim1 => ?_⟩
      rw [fX0_unlikeBends_6, show (12 : Int32) = nI 12 from rfl, if_le_n (by omega) (by omega), lit_nI2, idiv_nI (by omega) (by omega), nI_add, if_le_n (by omega) (by omega), nI_mul, nI_s, show 32 * 2 ^ q * 2 = 32 * 2 ^ (q + 1) by rw [Nat.pow_succ, Nat.mul_assoc]]
      exact a3 lim1
theorem VW.unlC (h : VW numbers cells rows sizes rooms mem kn a l rm nb) {O : List (List Nat)} {rn : Nat} {rw0 : Nat → Int64} (hO : RO nb kn l O rn rw0) {m : Nat} (hm : m < 8) {sn : Nat} (hS : PS sn) (seen : Nat → Int64) : ∃ (lim1 sn2 : Nat) (T2 : Nat → Int64), fX0_unlikeBends lim1 rn rw0 sn seen (nI O.length) (nI l.length) cells (nI m) = some (nI (DK (kN nb) (O.filter (fun x => soB (ceQ nb) x m)) (O.filter (fun x => soB (ceQ nb) x m)).length).length, sn2, T2) ∧ PS sn2 ∧ 2 * sn + lim1 ≤ 2 * sn2 := by
  have h1 := hO.1
  have h2 := hO.2.1
  obtain ⟨k0, hk0, rfl⟩ := hS
  have pw : ∀ q, q < 12 → 32 * 2 ^ q ≤ 65536 ∧ 32 ≤ 32 * 2 ^ q := by decide +kernel
  have p0 := pw k0 (by omega)
  have go : ∀ (lim1 q : Nat) (T : Nat → Int64), q ≤ 11 → O.length < 32 * 2 ^ q → ∃ T2, fX0_unlikeBends_54 lim1 rn rw0 (32 * 2 ^ q) T (nI O.length) (nI l.length) cells (nI m) = some (nI (DK (kN nb) (O.filter (fun x => soB (ceQ nb) x m)) (O.filter (fun x => soB (ceQ nb) x m)).length).length, 32 * 2 ^ q, T2) := by
    intro lim1 q T hq hl
    have p1 := pw q (by omega)
    obtain ⟨f2, f3, f4⟩ := fillL p1.1 T
    obtain ⟨T2, t1⟩ := h.unl_loop hO hm (q := q + 5) (M := 32 * 2 ^ q) (by rw [Nat.pow_add, Nat.mul_comm]) p1.1 hl lim1 O.length FU 0 f2 (by omega) (FU_gt (by omega)) (okT_0 f4)
    refine ⟨T2, ?_⟩
    rw [fX0_unlikeBends_54, f3, Option.bind_some]
    exact t1
  have mono : ∀ x y : Nat, x < y → 32 * 2 ^ x * 2 ≤ 32 * 2 ^ y := fun x y hxy => by
    have : 2 ^ (x + 1) ≤ 2 ^ y := Nat.pow_le_pow_right (by decide) hxy
    rw [Nat.pow_succ] at this
    omega
  obtain ⟨q2, a1, a2, a3⟩ := slots_loop (cells := cells) (rn := rn) (sn := 32 * 2 ^ k0) (rw0 := rw0) (seen := seen) (plies := nI l.length) (v := nI m) (s := O.length) (by omega) 11 FU 0 (by omega) (FU_gt (by omega))
  have p2 := pw q2 (by omega)
  by_cases c : 32 * 2 ^ q2 ≤ 32 * 2 ^ k0
  · obtain ⟨T2, t1⟩ := go 0 k0 seen hk0 (by omega)
    refine ⟨0, 32 * 2 ^ k0, T2, ?_, ⟨k0, hk0, rfl⟩, by omega⟩
    have e := a3 0
    rw [fX0_unlikeBends_38, if_le_y c (by omega)] at e
    rw [fX0_unlikeBends]
    exact e.trans t1
  · obtain ⟨T2, t1⟩ := go (32 * 2 ^ q2) q2 (fun _ => 0) a1 (by omega)
    refine ⟨32 * 2 ^ q2, 32 * 2 ^ q2, T2, ?_, ⟨q2, a1, rfl⟩, ?_⟩
    · have e := a3 (32 * 2 ^ q2)
      rw [fX0_unlikeBends_38, if_le_n (by omega) (by omega), nn_ok (Nat.le_refl _) (by omega), nI_clamp' (by omega)] at e
      rw [fX0_unlikeBends]
      exact e.trans t1
    · have := mono k0 q2 (by
        by_cases e : k0 < q2
        · exact e
        · have : 2 ^ q2 ≤ 2 ^ k0 := Nat.pow_le_pow_right (by decide) (by omega)
          omega)
      omega
theorem clear_loop {mem row left fo : Nat → Int32} {wide lost k0 k1 k2 k3 k4 un v : Int32} {k5 : Int64} : ∀ (k n i : Nat) (se : Nat → Int64), i + k = 65536 → k < n → (∀ j, j < i → se j = 0) → ∃ se2, fX8_unlike_13 n mem row wide lost left k0 k1 k2 k3 k4 k5 fo se un v (nI i) = fX8_unlike_32 mem row wide lost left k0 k1 k2 k3 k4 k5 fo se2 un v ∧ ∀ j, j < 65536 → se2 j = 0 := by
  intro k
  induction k with
  | zero =>
    intro n i se hi hn h
    obtain ⟨n, rfl, -⟩ := succ_of hn
    exact ⟨se, by rw [fX8_unlike_13, show (65536 : Int32) = nI 65536 from rfl, if_le_y (by omega) (by omega)], fun j hj => h j (by omega)⟩
  | succ k ih =>
    intro n i se hi hn h
    obtain ⟨n, rfl, hn'⟩ := succ_of hn
    rw [fX8_unlike_13, show (65536 : Int32) = nI 65536 from rfl, if_le_n (by omega) (by omega), chkN (by omega) (by omega), nI_clamp' (by omega), nI_s]
    exact ih n (i + 1) _ (by omega) (by omega) (fun j hj => by
      by_cases e : j = i
      · rw [e, updL_same]
      · rw [updL_ne _ _ e]; exact h j (by omega))
theorem VW.mUnl (h : VW numbers cells rows sizes rooms mem kn a l rm nb) {m : Nat} (hm : m < 8) (h9 : (OL nb l rm m).length ≤ 40320) (row : Nat → Int32) (wide lost : Int32) (left : Nat → Int32) (k0 k1 k2 k3 k4 : Int32) (k5 : Int64) (fo : Nat → Int32) (se : Nat → Int64) (hse : ∀ j, j < 65536 → se j = 0) : ∃ row2 left2 o2 fa2 fb2 fo2 se2 un2, fX8_goes mem row wide lost left k0 k1 k2 k3 k4 k5 fo se 0 (nI m) 5 0 = some (o2, row2, nI l.length, 0, left2, nI m, 5, 0, o2, fa2, fb2, fo2, se2, un2) ∧ o2 = nI (OL nb l rm m).length ∧ un2 = nI (DK (kN nb) (OL nb l rm m) (OL nb l rm m).length).length := by
  obtain ⟨row2, left2, o2, fa2, fb2, fo2, se2, un2, q1, q2, q3, q4⟩ := h.goes hm (mode := 5) (wanted := 0) (Pst := fun n o _ _ _ se un => o = nI n ∧ un = nI (DK (kN nb) (OL nb l rm m) n).length ∧ okT 65536 se mH ((DK (kN nb) (OL nb l rm m) n).map mK)) (fun n o fa fb fo se un row hn hP hr hl hR h3 => by
    obtain ⟨rfl, rfl, hT⟩ := hP
    have dl := DK_len (kN nb) (OL nb l rm m) n
    obtain ⟨kb1, kb2⟩ := h.kN_bd hR h3
    have z := mK_0 kb2
    obtain ⟨j, hj⟩ := hT.stop (by rw [List.length_map]; omega) (mH (mK (kN nb ((OL nb l rm m).getD n [])))) (mK (kN nb ((OL nb l rm m).getD n [])))
    have hh := hT.has z hj
    have db := h.dk_bd (L := OL nb l rm m) (fun x hx => h.ordM x (List.mem_filter.mp hx).1) (n := n) (by omega)
    have mm := map_mem (f := mK) (B := 9223372036854775808) (fun x y hx hy => mK_inj hx hy) db kb2
    have km := h.keyM hR h3 hr se (nI (DK (kN nb) (OL nb l rm m) n).length)
    rw [hl, mNew z hj] at km
    have vis : fX8_visits mem row (nI l.length) 0 5 0 (nI n) fa fb fo se (nI (DK (kN nb) (OL nb l rm m) n).length) = some (nI (n + 1), fa, fb, fo, vp_updL se ((mH (mK (kN nb ((OL nb l rm m).getD n []))) + j) % 65536) (mK (kN nb ((OL nb l rm m).getD n []))), if se ((mH (mK (kN nb ((OL nb l rm m).getD n []))) + j) % 65536) = mK (kN nb ((OL nb l rm m).getD n [])) then nI (DK (kN nb) (OL nb l rm m) n).length else nI ((DK (kN nb) (OL nb l rm m) n).length + 1)) := by
      rw [fX8_visits, if_neg (by decide), fX8_visits_19, if_neg (by decide), fX8_visits_39, if_neg (by decide), fX8_visits_83, if_neg (by decide), fX8_visits_121, if_pos rfl, km, ob2_some, nI_s]
    by_cases e : se ((mH (mK (kN nb ((OL nb l rm m).getD n []))) + j) % 65536) = mK (kN nb ((OL nb l rm m).getD n []))
    · rw [if_pos e, updL_id e] at vis
      refine ⟨_, _, _, _, _, _, vis, rfl, ?_, ?_⟩
      · rw [DK, if_pos (mm.mp (hh.mp e))]
      · rw [DK, if_pos (mm.mp (hh.mp e))]; exact hT
    · have nm : ¬ kN nb ((OL nb l rm m).getD n []) ∈ DK (kN nb) (OL nb l rm m) n := fun q => e (hh.mpr (mm.mpr q))
      rw [if_neg e] at vis
      refine ⟨_, _, _, _, _, _, vis, rfl, ?_, ?_⟩
      · rw [DK, if_neg nm, List.length_cons]
      · rw [DK, if_neg nm]; exact hT.put z hj (hj.2.1.resolve_left e)) row wide lost left k0 k1 k2 k3 k4 k5 fo se 0 ⟨rfl, rfl, okT_0 hse⟩
  exact ⟨row2, left2, o2, fa2, fb2, fo2, se2, un2, q1, q2, q3⟩
end
