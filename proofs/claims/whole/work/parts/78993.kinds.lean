/-! the lines of kinds and of plies -/
theorem n0' : nI 0 = (0 : Int32) := rfl
theorem n1' : nI 1 = (1 : Int32) := rfl
theorem n2' : nI 2 = (2 : Int32) := rfl
theorem n3' : nI 3 = (3 : Int32) := rfl
theorem n4' : nI 4 = (4 : Int32) := rfl
theorem n99' : nI 99 = (99 : Int32) := rfl
theorem n999' : nI 999 = (999 : Int32) := rfl
theorem qe_same {nb nb2 : Nat → Int} {t c : Nat} (h : ∀ i, i < 5 → nb2 (5 * (t / 4) + i) = nb (5 * (t / 4) + i)) : qe nb2 t c = qe nb t c := by
  have h0 := h 0 (by omega)
  have h1 := h 1 (by omega)
  have h2 := h 2 (by omega)
  have h3 := h 3 (by omega)
  simp only [Nat.add_zero] at h0
  simp only [qe, h0, h1, h2, h3]
theorem PlOK.more {numbers cells numbers2 : Nat → Int32} {kn : Nat} (h : PlOK numbers cells kn) (hk : kn < 3) (ho : ∀ q, q < 5 * kn → numbers2 q = numbers q) {v : Nat → Nat} (hv : ∀ j, j < 5 → numbers2 (5 * kn + j) = nI (v j)) (b0 : 1 ≤ v 0 ∧ v 0 ≤ 99) (b1 : v 1 ≤ 99) (b2 : v 2 ≤ 99) (b3 : v 3 ≤ 99) (b4 : 1 ≤ v 4 ∧ v 4 ≤ 999) : ∃ c2 : Nat → Int32, fX1_fillCells numbers2 cells (nI kn) = some c2 ∧ PlOK numbers2 c2 (kn + 1) := by
  obtain ⟨-, nb, h1, h2, h3⟩ := h
  let nb2 : Nat → Int := fun q => if q < 5 * kn then nb q else (v (q - 5 * kn) : Int)
  have lo : ∀ q, q < 5 * kn → nb2 q = nb q := fun q hq => if_pos hq
  have hi : ∀ j, nb2 (5 * kn + j) = (v j : Int) := fun j => by
    show (if 5 * kn + j < 5 * kn then nb (5 * kn + j) else (v (5 * kn + j - 5 * kn) : Int)) = _
    rw [if_neg (by omega), Nat.add_sub_cancel_left]
  have hn : ∀ j, j < 5 → numbers2 (5 * kn + j) = i32 (nb2 (5 * kn + j)) := fun j hj => by rw [hv j hj, hi, nI_i32]
  obtain ⟨c2, p1, p2, p3⟩ := fillCells_ok (cells := cells) hk nb2 hn
  refine ⟨c2, p1, by omega, nb2, fun k hk' => ?_, fun q hq => ?_, fun t ht c hc => ?_⟩
  · by_cases y : k = kn
    · subst y
      have e0 := hi 0
      have e1 := hi 1
      have e2 := hi 2
      have e3 := hi 3
      have e4 := hi 4
      simp only [Nat.add_zero] at e0
      rw [e0, e1, e2, e3, e4]
      omega
    · have := h1 k (by omega)
      rw [lo _ (by omega), lo _ (by omega), lo _ (by omega), lo _ (by omega), lo _ (by omega)]
      exact this
  · by_cases y : q < 5 * kn
    · rw [ho q y, lo q y, h2 q y]
    · have := hn (q - 5 * kn) (by omega)
      rw [show 5 * kn + (q - 5 * kn) = q by omega] at this
      exact this
  · by_cases y : t < 4 * kn
    · rw [p2 _ (by omega), h3 t y c hc, qe_same (nb := nb) (nb2 := nb2) (fun i hi => lo _ (by omega))]
    · have := p3 (t - 4 * kn) (by omega) c hc
      rw [show 4 * kn + (t - 4 * kn) = t by omega] at this
      exact this
theorem kind135_bad (mem tp : Nat → Int32) (n fk fp mat mbg mtk mv : Int32) (na ml : Nat → Int32) (v2 v3 z : Int32) : fX8_readsKind_135 mem tp n fk fp mat mbg mtk mv 1 na ml v2 v3 z = some (mem, fk, fp, mat, mbg, mtk, mv, 1, na, ml) := by
  rw [fX8_readsKind_135, passes_bad, sob7, named_bad, sob8, named_bad, sob8, named_bad, sob8, named_bad, sob8, named_bad, sob8, if_neg i10]
theorem kind99_bad (mem tp : Nat → Int32) (n fk fp mat mbg mtk mv : Int32) (na ml : Nat → Int32) : fX8_readsKind_99 mem tp n fk fp mat mbg mtk mv 1 na ml = some (mem, fk, fp, mat, mbg, mtk, mv, 1, na, ml) := by
  rw [fX8_readsKind_99, if_neg i10, fX8_readsKind_130, kind135_bad]
theorem kind94 (mem tp : Nat → Int32) (n fk fp mat mbg mtk mv : Int32) (na ml : Nat → Int32) : fX8_readsKind_94 mem tp n fk fp mat mbg mtk mv 0 na ml = some (mem, 2, mbg, mat, mbg, mtk, mv, 1, na, ml) := by
  rw [fX8_readsKind_94, fX8_faults, if_pos rfl, sob3, kind99_bad]
theorem kind52_bad (mem tp : Nat → Int32) (n fk fp mat mbg mtk mv : Int32) (na ml : Nat → Int32) (z : Int32) : fX8_readsKind_52 mem tp n fk fp mat mbg mtk mv 1 na ml z = some (mem, fk, fp, mat, mbg, mtk, mv, 1, na, ml) := by
  rw [fX8_readsKind_52, if_neg i10, kind99_bad]
section
variable {c : Nat → Nat} {n : Nat} {b tp : Nat → Int32}
theorem TX.resv (X : TX c n b tp) {s e : Nat} {tk st af mat mbg mtk mv : Int32} (h : TK n b s e tk st af mat mbg mtk mv) (f p : Int32) : ∃ R : Int32, (R = 0 ∨ R = 1) ∧ (R = 1 ↔ tk = 1 ∧ (WD c s e 0 ∨ WD c s e 2 ∨ WD c s e 3)) ∧ (∀ (β : Type) (K0 K1 : Option β), ((fX8_isWord tp mat mbg mtk 0).bind fun r16 => (if r16 = 0 then (fX8_isWord tp mat mbg mtk 2).bind fun r20 => (if r20 = 0 then (fX8_isWord tp mat mbg mtk 3).bind fun r24 => (if r24 = 0 then K0 else K1) else K1) else K1)) = if R = 0 then K0 else K1) ∧ fX2_isName b (nI n) tk st af f p = if tk = 1 then (if R = 0 then fX2_isName_46 st af f p 0 else fX2_isName_41 st af f p) else some (0, 1, st) := by
  obtain ⟨r, a0, a1, a2, a3⟩ := X.word (w := 0) (by omega) h
  obtain ⟨q, b0, b1, b2, b3⟩ := X.word (w := 2) (by omega) h
  obtain ⟨u, c0, c1, c2, c3⟩ := X.word (w := 3) (by omega) h
  have fin : ∀ R : Int32, (∀ (β : Type) (K0 K1 : Option β), ((some r).bind fun r16 => (if r16 = 0 then (some q).bind fun r20 => (if r20 = 0 then (some u).bind fun r24 => (if r24 = 0 then K0 else K1) else K1) else K1)) = if R = 0 then K0 else K1) → fX2_isName b (nI n) tk st af f p = if tk = 1 then (if R = 0 then fX2_isName_46 st af f p 0 else fX2_isName_41 st af f p) else some (0, 1, st) := fun R hR => by
    rw [fX2_isName, a1, b1, c1, hR]
    rfl
  rw [a2, b2, c2]
  rcases a0 with rfl | rfl
  · have x0 : ¬ (tk = 1 ∧ WD c s e 0) := fun z => absurd (a3.mpr z) (by decide)
    rcases b0 with rfl | rfl
    · have x1 : ¬ (tk = 1 ∧ WD c s e 2) := fun z => absurd (b3.mpr z) (by decide)
      rcases c0 with rfl | rfl
      · have x2 : ¬ (tk = 1 ∧ WD c s e 3) := fun z => absurd (c3.mpr z) (by decide)
        have hR : ∀ (β : Type) (K0 K1 : Option β), ((some (0 : Int32)).bind fun r16 => (if r16 = 0 then (some (0 : Int32)).bind fun r20 => (if r20 = 0 then (some (0 : Int32)).bind fun r24 => (if r24 = 0 then K0 else K1) else K1) else K1)) = if (0 : Int32) = 0 then K0 else K1 := fun β K0 K1 => rfl
        refine ⟨0, Or.inl rfl, ⟨fun z => absurd z (by decide), fun z => ?_⟩, hR, fin 0 hR⟩
        rcases z with ⟨z, z1 | z1 | z1⟩
        · exact absurd ⟨z, z1⟩ x0
        · exact absurd ⟨z, z1⟩ x1
        · exact absurd ⟨z, z1⟩ x2
      · have hR : ∀ (β : Type) (K0 K1 : Option β), ((some (0 : Int32)).bind fun r16 => (if r16 = 0 then (some (0 : Int32)).bind fun r20 => (if r20 = 0 then (some (1 : Int32)).bind fun r24 => (if r24 = 0 then K0 else K1) else K1) else K1)) = if (1 : Int32) = 0 then K0 else K1 := fun β K0 K1 => rfl
        exact ⟨1, Or.inr rfl, ⟨fun _ => ⟨(c3.mp rfl).1, Or.inr (Or.inr (c3.mp rfl).2)⟩, fun _ => rfl⟩, hR, fin 1 hR⟩
    · have hR : ∀ (β : Type) (K0 K1 : Option β), ((some (0 : Int32)).bind fun r16 => (if r16 = 0 then (some (1 : Int32)).bind fun r20 => (if r20 = 0 then (some u).bind fun r24 => (if r24 = 0 then K0 else K1) else K1) else K1)) = if (1 : Int32) = 0 then K0 else K1 := fun β K0 K1 => rfl
      exact ⟨1, Or.inr rfl, ⟨fun _ => ⟨(b3.mp rfl).1, Or.inr (Or.inl (b3.mp rfl).2)⟩, fun _ => rfl⟩, hR, fin 1 hR⟩
  · have hR : ∀ (β : Type) (K0 K1 : Option β), ((some (1 : Int32)).bind fun r16 => (if r16 = 0 then (some q).bind fun r20 => (if r20 = 0 then (some u).bind fun r24 => (if r24 = 0 then K0 else K1) else K1) else K1)) = if (1 : Int32) = 0 then K0 else K1 := fun β K0 K1 => rfl
    exact ⟨1, Or.inr rfl, ⟨fun _ => ⟨(a3.mp rfl).1, Or.inl (a3.mp rfl).2⟩, fun _ => rfl⟩, hR, fin 1 hR⟩
/-- what a name is to the class -/
theorem TX.name (X : TX c n b tp) {s e : Nat} {tk st af mat mbg mtk mv : Int32} (h : TK n b s e tk st af mat mbg mtk mv) (f p : Int32) : ∃ R : Int32, (R = 0 ∨ R = 1) ∧ (∀ (β : Type) (K0 K1 : Option β), ((fX8_isWord tp mat mbg mtk 0).bind fun r16 => (if r16 = 0 then (fX8_isWord tp mat mbg mtk 2).bind fun r20 => (if r20 = 0 then (fX8_isWord tp mat mbg mtk 3).bind fun r24 => (if r24 = 0 then K0 else K1) else K1) else K1)) = if R = 0 then K0 else K1) ∧ ((¬ tk = 1 ∧ ¬ mtk = 1 ∧ R = 0 ∧ fX2_isName b (nI n) tk st af f p = some (0, 1, nI s)) ∨ (tk = 1 ∧ mtk = 1 ∧ st = nI s ∧ af = nI e ∧ mat = nI e ∧ mbg = nI s ∧ (R = 1 ∨ 6 < e - s) ∧ ((WD c s e 0 ∨ WD c s e 2 ∨ WD c s e 3) ∨ 6 < e - s) ∧ fX2_isName b (nI n) tk st af f p = some (0, 2, nI s)) ∨ (tk = 1 ∧ mtk = 1 ∧ st = nI s ∧ af = nI e ∧ mat = nI e ∧ mbg = nI s ∧ R = 0 ∧ e - s ≤ 6 ∧ ¬ WD c s e 0 ∧ ¬ WD c s e 2 ∧ ¬ WD c s e 3 ∧ fX2_isName b (nI n) tk st af f p = some (1, f, p))) := by
  have hn := X.hn
  obtain ⟨R, r0, r1, r2, r3⟩ := X.resv h f p
  refine ⟨R, r0, r2, ?_⟩
  rw [r3]
  obtain ⟨rfl, rfl, h1, h2, h3⟩ := h
  have no : ∀ t m : Int32, ¬ t = 1 → ¬ m = 1 → (R = 1 ↔ t = 1 ∧ (WD c s e 0 ∨ WD c s e 2 ∨ WD c s e 3)) → (¬ t = 1 ∧ ¬ m = 1 ∧ R = 0 ∧ (if t = 1 then (if R = 0 then fX2_isName_46 (nI s) af f p 0 else fX2_isName_41 (nI s) af f p) else some (0, 1, nI s)) = some (0, 1, nI s)) := fun t m q1 q2 q3 => by
    refine ⟨q1, q2, ?_, if_neg q1⟩
    rcases r0 with r0 | r0
    · exact r0
    · exact absurd (q3.mp r0).1 q1
  rcases h3 with ⟨rfl, rfl, -⟩ | ⟨h3, rfl, rfl, ⟨rfl, rfl⟩ | ⟨rfl, rfl, -⟩ | ⟨rfl, rfl⟩ | ⟨rfl, rfl⟩⟩
  · exact Or.inl (no 5 0 (by decide) (by decide) r1)
  · right
    rcases r0 with rfl | rfl
    · have nw : ¬ (WD c s e 0 ∨ WD c s e 2 ∨ WD c s e 3) := fun z => absurd (r1.mpr ⟨rfl, z⟩) (by decide)
      by_cases y : e - s ≤ 6
      · refine Or.inr ⟨rfl, rfl, rfl, rfl, rfl, rfl, rfl, y, fun z => nw (Or.inl z), fun z => nw (Or.inr (Or.inl z)), fun z => nw (Or.inr (Or.inr z)), ?_⟩
        rw [if_pos rfl, if_pos rfl, fX2_isName_46, if_pos rfl, nI_sub h1, show (6 : Int32) = nI 6 from rfl, if_le_y y (by omega)]
      · refine Or.inl ⟨rfl, rfl, rfl, rfl, rfl, rfl, Or.inr (by omega), Or.inr (by omega), ?_⟩
        rw [if_pos rfl, if_pos rfl, fX2_isName_46, if_pos rfl, nI_sub h1, show (6 : Int32) = nI 6 from rfl, if_le_n (by omega) (by omega)]
        rfl
    · exact Or.inl ⟨rfl, rfl, rfl, rfl, rfl, rfl, Or.inl rfl, Or.inl (r1.mp rfl).2, rfl⟩
  · exact Or.inl (no 2 2 (by decide) (by decide) r1)
  · exact Or.inl (no 3 3 (by decide) (by decide) r1)
  · exact Or.inl (no 0 4 (by decide) (by decide) r1)
def PK (numbers cells : Nat → Int32) (kn : Nat) (mem : Nat → Int32) : Prop := PlOK numbers cells kn ∧ mem 1 = nI kn ∧ ∀ q, q < 5 * kn → mem (4 + q) = numbers q
theorem k135_ok {mem na ml : Nat → Int32} {n0 fk fp mat mbg mtk mv a1 a2 a3 a4 b1 b2 b3 b4 c1 c2 c3 c4 d1 d2 d3 d4 e1 e2 e3 e4 g1 g2 g3 g4 v2 v3 w0 w1 w2 w3 w4 : Int32} {kn : Nat} (hk : kn < 3) (hm : mem 1 = nI kn) (h0 : fX8_passes tp n0 fk fp mat mbg mtk mv 0 1 = some (fk, fp, a1, a2, a3, a4, 0)) (h1 : fX8_readsNamed tp n0 fk fp a1 a2 a3 a4 0 4 1 99 = some (w0, fk, fp, b1, b2, b3, b4, 0)) (h2 : fX8_readsNamed tp n0 fk fp b1 b2 b3 b4 0 5 0 99 = some (w1, fk, fp, c1, c2, c3, c4, 0)) (h3 : fX8_readsNamed tp n0 fk fp c1 c2 c3 c4 0 6 0 99 = some (w2, fk, fp, d1, d2, d3, d4, 0)) (h4 : fX8_readsNamed tp n0 fk fp d1 d2 d3 d4 0 7 0 99 = some (w3, fk, fp, e1, e2, e3, e4, 0)) (h5 : fX8_readsNamed tp n0 fk fp e1 e2 e3 e4 0 8 1 999 = some (w4, fk, fp, g1, g2, g3, g4, 0)) : fX8_readsKind_135 mem tp n0 fk fp mat mbg mtk mv 0 na ml v2 v3 1 = some (upd (upd (upd (upd (upd (upd mem (4 + 5 * kn) w0) (4 + 5 * kn + 1) w1) (4 + 5 * kn + 2) w2) (4 + 5 * kn + 3) w3) (4 + 5 * kn + 4) w4) 1 (nI (kn + 1)), fk, fp, g1, g2, g3, g4, 0, upd na kn v2, upd ml kn v3) := by
  have e0 : (4 : Int32) + 5 * nI kn = nI (4 + 5 * kn) := by rw [show (5 : Int32) = nI 5 from rfl, nI_mul, show (4 : Int32) = nI 4 from rfl, nI_add]
  have e1' : nI (4 + 5 * kn) + 1 = nI (4 + 5 * kn + 1) := nI_s _
  have e2' : nI (4 + 5 * kn) + 2 = nI (4 + 5 * kn + 2) := nI_add _ _
  have e3' : nI (4 + 5 * kn) + 3 = nI (4 + 5 * kn + 3) := nI_add _ _
  have e4' : nI (4 + 5 * kn) + 4 = nI (4 + 5 * kn + 4) := nI_add _ _
  have eu : (upd (upd (upd (upd (upd mem (4 + 5 * kn) w0) (4 + 5 * kn + 1) w1) (4 + 5 * kn + 2) w2) (4 + 5 * kn + 3) w3) (4 + 5 * kn + 4) w4) 1 = nI kn := by
    rw [upd_ne _ _ (by omega), upd_ne _ _ (by omega), upd_ne _ _ (by omega), upd_ne _ _ (by omega), upd_ne _ _ (by omega), hm]
  rw [fX8_readsKind_135, h0, sob7, h1, sob8, h2, sob8, h3, sob8, h4, sob8, h5, sob8, if_pos rfl, hm, e0, e1', e2', e3', e4', nI_clamp' (by omega), nI_clamp' (by omega), nI_clamp' (by omega), nI_clamp' (by omega), nI_clamp' (by omega), eu, chkN (by omega) (by omega), chkN (by omega) (by omega), chkN (by omega) (by omega), chkN (by omega) (by omega), chkN (by omega) (by omega), chkN (by omega) (by omega), chkN (by omega) (by omega), nI_s, nI_clamp' (by omega)]
end
