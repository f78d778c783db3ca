/-! a line of a kind, a line of a ply -/
theorem nm1 : ∀ q, q < 4 → ¬ nI q = (-1 : Int32) := by decide
section
variable {c : Nat → Nat} {n : Nat} {b tp : Nat → Int32}
theorem k52_94 {mem na ml : Nat → Int32} {n0 fk fp mtk mv z : Int32} {s e : Nat} (hse : s ≤ e) (he : e ≤ 600) (hm : mtk = 1) (hz : ¬ z = 0 ∨ 6 < e - s) : fX8_readsKind_52 mem tp n0 fk fp (nI e) (nI s) mtk mv 0 na ml z = some (mem, 2, nI s, nI e, nI s, mtk, mv, 1, na, ml) := by
  rw [fX8_readsKind_52, if_pos rfl, if_pos hm, nI_sub hse, show (6 : Int32) = nI 6 from rfl]
  by_cases y : 6 < e - s
  · rw [if_lt_y y (by omega), kind94]
  · rw [if_lt_n (by omega) (by omega), if_neg (by rcases hz with hz | hz; exact hz; omega), kind94]
theorem TX.kindLine (X : TX c n b tp) {s e : Nat} {tk st af mat mbg mtk mv : Int32} (h : TK n b s e tk st af mat mbg mtk mv) (htk : tk = 1) {numbers cells mem ns nl na ml : Nat → Int32} {kn : Nat} {S L : Nat → Nat} (hP : PK numbers cells kn mem) (hN : NM c n kn S L ns nl na ml) (f p : Int32) : (∃ (s' e' : Nat) (tk' af' mat' mtk' mv' : Int32) (numbers' cells' mem' ns' nl' na' ml' : Nat → Int32) (S' L' : Nat → Nat), s < s' ∧ fX2_readKind numbers cells (nI kn) ns nl b (nI n) tk st af f p = some (1, numbers', cells', nI (kn + 1), ns', nl', tk', nI s', af', f, p) ∧ fX8_readsKind mem tp (nI n) f p mat mbg mtk mv 0 na ml = some (mem', f, p, mat', nI s', mtk', mv', 0, na', ml') ∧ TK n b s' e' tk' (nI s') af' mat' (nI s') mtk' mv' ∧ PK numbers' cells' (kn + 1) mem' ∧ (∀ k, (k = 0 ∨ k = 2 ∨ k = 3 ∨ 19 ≤ k) → mem' k = mem k) ∧ NM c n (kn + 1) S' L' ns' nl' na' ml') ∨ (∃ (numbers' cells' : Nat → Int32) (kinds' : Int32) (ns' nl' : Nat → Int32) (tk' st' af' k pl : Int32) (mem' : Nat → Int32) (mat' mbg' mtk' mv' : Int32) (na' ml' : Nat → Int32), fX2_readKind numbers cells (nI kn) ns nl b (nI n) tk st af f p = some (0, numbers', cells', kinds', ns', nl', tk', st', af', k, pl) ∧ fX8_readsKind mem tp (nI n) f p mat mbg mtk mv 0 na ml = some (mem', k, pl, mat', mbg', mtk', mv', 1, na', ml')) := by
  have hn := X.hn
  have k3 := hN.k3
  by_cases h3 : kn < 3
  · obtain ⟨s1, e1, tk1, af1, mat1, mtk1, mv1, y0, y1, y2, y3⟩ := X.go h (by rw [htk]; decide)
    obtain ⟨R, r0, r1, r2⟩ := X.name y3 f p
    have mk : fX8_readsKind mem tp (nI n) f p mat mbg mtk mv 0 na ml = if R = 0 then fX8_readsKind_52 mem tp (nI n) f p mat1 (nI s1) mtk1 mv1 0 na ml 0 else fX8_readsKind_47 mem tp (nI n) f p mat1 (nI s1) mtk1 mv1 0 na ml := by
      rw [fX8_readsKind, hP.2.1, if_neg (eq_n' (y := 3) (b := 3) rfl rfl (by omega) (by omega) (by omega)), fX8_readsKind_15, passes_ok (by decide) y2, sob7]
      exact r1 _ _ _
    have b1 := y3.2.2.1
    have b2 := y3.2.2.2.1
    rcases r2 with ⟨q1, q2, q3, q9⟩ | ⟨q1, q2, -, q4, q5, -, q7, -, q9⟩ | ⟨q1, q2, -, q4, q5, -, q7, q8, w0, w2, w3, q9⟩
    · refine Or.inr ⟨numbers, cells, nI kn, ns, nl, tk1, nI s1, af1, 1, nI s1, mem, mat1, nI s1, mtk1, mv1, na, ml, ?_, ?_⟩
      · rw [fX2_readKind, if_neg (nI_nn0 (by omega)), if_pos (lt_y' (y := 3) (b := 3) rfl rfl h3 (by omega)), y1, sob3, q9, sob3, if_pos rfl]
      · rw [mk, if_pos q3, fX8_readsKind_52, if_pos rfl, if_neg q2, fX8_readsKind_99, if_pos rfl, if_neg q2, fX8_readsKind_135, passes_no, sob7, named_bad, sob8, named_bad, sob8, named_bad, sob8, named_bad, sob8, named_bad, sob8, if_neg i10]
    · refine Or.inr ⟨numbers, cells, nI kn, ns, nl, tk1, nI s1, af1, 2, nI s1, mem, mat1, nI s1, mtk1, mv1, na, ml, ?_, ?_⟩
      · rw [fX2_readKind, if_neg (nI_nn0 (by omega)), if_pos (lt_y' (y := 3) (b := 3) rfl rfl h3 (by omega)), y1, sob3, q9, sob3, if_pos rfl]
      · subst q5
        rw [mk, fX8_readsKind_47]
        rcases r0 with r0 | r0
        · rw [if_pos r0, k52_94 b1 (by omega) q2 (Or.inr (by
            rcases q7 with q7 | q7
            · rw [r0] at q7; exact absurd q7 (by decide)
            · exact q7))]
        · rw [if_neg (by rw [r0]; decide), k52_94 b1 (by omega) q2 (Or.inl (by decide))]
    · subst q4
      subst q5
      obtain ⟨r, t1, t2, t3⟩ := X.told hN hP.2.1 b1 b2 kn 0 FU FU (by omega) (FU_gt (by omega)) (FU_gt (by omega))
      rw [n0'] at t1 t2
      rcases t3 with ⟨t3, -⟩ | ⟨q, t3, t4, -⟩
      · subst t3
        obtain ⟨s2, e2, tk2, af2, mat2, mtk2, mv2, x0, x1, x2, x3⟩ := X.go y3 (by rw [q1]; decide)
        have mk2 : fX8_readsKind mem tp (nI n) f p mat mbg mtk mv 0 na ml = fX8_readsKind_135 mem tp (nI n) f p (nI e1) (nI s1) mtk1 mv1 0 na ml (nI s1) (nI (e1 - s1)) 1 := by
          rw [mk, if_pos q7, fX8_readsKind_52, if_pos rfl, if_pos q2, nI_sub b1, show (6 : Int32) = nI 6 from rfl, if_lt_n q8 (by omega), if_pos rfl, fX8_kindHere, t2, sb3, if_pos rfl, fX8_readsKind_99, if_pos rfl, if_pos q2, fX8_readsKind_130, nI_sub b1]
        have mp := passes_ok (fk := f) (fp := p) (z := 1) (by decide) x2
        have N0 := X.number (w := 4) (lo := 1) (hi := 99) (k := kn) (j := 0) (by omega) (by omega) (by omega) h3 (by omega) x3 f p (numbers)
        simp only [n0', n1', n2', n3', n4', n99', n999'] at N0
        rcases N0 with ⟨v0, s3, e3, tk3, af3, mat3, mtk3, mv3, lo0, hi0, g0, cn0, mn0, tt0⟩ | ⟨tkx, stx, afx, kx, plx, xx, matx, mbgx, mtkx, mvx, cx, mx⟩
        rotate_left
        · refine Or.inr ⟨numbers, cells, nI kn, upd ns kn (nI s1), upd nl kn (nI (e1 - s1)), tkx, stx, afx, kx, plx, mem, matx, mbgx, mtkx, mvx, na, ml, ?_, ?_⟩
          · rw [fX2_readKind, if_neg (nI_nn0 (by omega)), if_pos (lt_y' (y := 3) (b := 3) rfl rfl h3 (by omega)), y1, sob3, q9, sob3, if_neg i10, fX2_toldKind, t1, sb3, if_pos rfl, chkN h3 (by omega), chkN h3 (by omega), x1, sob3, nI_clamp' (by omega), nI_sub b1, cx, sob7, if_pos rfl, fX2_readKind_154, fX2_readKind_155, if_pos rfl, zb_in (Or.inl rfl)]
          · rw [mk2, fX8_readsKind_135, mp, sob7, mx, sob8, named_bad, sob8, named_bad, sob8, named_bad, sob8, named_bad, sob8, if_neg i10]
        have N1 := X.number (w := 5) (lo := 0) (hi := 99) (k := kn) (j := 1) (by omega) (by omega) (by omega) h3 (by omega) tt0 f p (upd (numbers) (5 * kn + 0) (nI v0))
        simp only [n0', n1', n2', n3', n4', n99', n999'] at N1
        rcases N1 with ⟨v1, s4, e4, tk4, af4, mat4, mtk4, mv4, lo1, hi1, g1, cn1, mn1, tt1⟩ | ⟨tkx, stx, afx, kx, plx, xx, matx, mbgx, mtkx, mvx, cx, mx⟩
        rotate_left
        · refine Or.inr ⟨upd (numbers) (5 * kn + 0) (nI v0), cells, nI kn, upd ns kn (nI s1), upd nl kn (nI (e1 - s1)), tkx, stx, afx, kx, plx, mem, matx, mbgx, mtkx, mvx, na, ml, ?_, ?_⟩
          · rw [fX2_readKind, if_neg (nI_nn0 (by omega)), if_pos (lt_y' (y := 3) (b := 3) rfl rfl h3 (by omega)), y1, sob3, q9, sob3, if_neg i10, fX2_toldKind, t1, sb3, if_pos rfl, chkN h3 (by omega), chkN h3 (by omega), x1, sob3, nI_clamp' (by omega), nI_sub b1, cn0, sob7, if_neg i10, cx, sob7, if_pos rfl, fX2_readKind_154, fX2_readKind_155, if_pos rfl, zb_in (Or.inl rfl)]
          · rw [mk2, fX8_readsKind_135, mp, sob7, mn0, sob8, mx, sob8, named_bad, sob8, named_bad, sob8, named_bad, sob8, if_neg i10]
        have N2 := X.number (w := 6) (lo := 0) (hi := 99) (k := kn) (j := 2) (by omega) (by omega) (by omega) h3 (by omega) tt1 f p (upd (upd (numbers) (5 * kn + 0) (nI v0)) (5 * kn + 1) (nI v1))
        simp only [n0', n1', n2', n3', n4', n99', n999'] at N2
        rcases N2 with ⟨v2, s5, e5, tk5, af5, mat5, mtk5, mv5, lo2, hi2, g2, cn2, mn2, tt2⟩ | ⟨tkx, stx, afx, kx, plx, xx, matx, mbgx, mtkx, mvx, cx, mx⟩
        rotate_left
        · refine Or.inr ⟨upd (upd (numbers) (5 * kn + 0) (nI v0)) (5 * kn + 1) (nI v1), cells, nI kn, upd ns kn (nI s1), upd nl kn (nI (e1 - s1)), tkx, stx, afx, kx, plx, mem, matx, mbgx, mtkx, mvx, na, ml, ?_, ?_⟩
          · rw [fX2_readKind, if_neg (nI_nn0 (by omega)), if_pos (lt_y' (y := 3) (b := 3) rfl rfl h3 (by omega)), y1, sob3, q9, sob3, if_neg i10, fX2_toldKind, t1, sb3, if_pos rfl, chkN h3 (by omega), chkN h3 (by omega), x1, sob3, nI_clamp' (by omega), nI_sub b1, cn0, sob7, if_neg i10, cn1, sob7, if_neg i10, cx, sob7, if_pos rfl, fX2_readKind_154, fX2_readKind_155, if_pos rfl, zb_in (Or.inl rfl)]
          · rw [mk2, fX8_readsKind_135, mp, sob7, mn0, sob8, mn1, sob8, mx, sob8, named_bad, sob8, named_bad, sob8, if_neg i10]
        have N3 := X.number (w := 7) (lo := 0) (hi := 99) (k := kn) (j := 3) (by omega) (by omega) (by omega) h3 (by omega) tt2 f p (upd (upd (upd (numbers) (5 * kn + 0) (nI v0)) (5 * kn + 1) (nI v1)) (5 * kn + 2) (nI v2))
        simp only [n0', n1', n2', n3', n4', n99', n999'] at N3
        rcases N3 with ⟨v3, s6, e6, tk6, af6, mat6, mtk6, mv6, lo3, hi3, g3, cn3, mn3, tt3⟩ | ⟨tkx, stx, afx, kx, plx, xx, matx, mbgx, mtkx, mvx, cx, mx⟩
        rotate_left
        · refine Or.inr ⟨upd (upd (upd (numbers) (5 * kn + 0) (nI v0)) (5 * kn + 1) (nI v1)) (5 * kn + 2) (nI v2), cells, nI kn, upd ns kn (nI s1), upd nl kn (nI (e1 - s1)), tkx, stx, afx, kx, plx, mem, matx, mbgx, mtkx, mvx, na, ml, ?_, ?_⟩
          · rw [fX2_readKind, if_neg (nI_nn0 (by omega)), if_pos (lt_y' (y := 3) (b := 3) rfl rfl h3 (by omega)), y1, sob3, q9, sob3, if_neg i10, fX2_toldKind, t1, sb3, if_pos rfl, chkN h3 (by omega), chkN h3 (by omega), x1, sob3, nI_clamp' (by omega), nI_sub b1, cn0, sob7, if_neg i10, cn1, sob7, if_neg i10, cn2, sob7, if_neg i10, cx, sob7, if_pos rfl, fX2_readKind_154, fX2_readKind_155, if_pos rfl, zb_in (Or.inl rfl)]
          · rw [mk2, fX8_readsKind_135, mp, sob7, mn0, sob8, mn1, sob8, mn2, sob8, mx, sob8, named_bad, sob8, if_neg i10]
        have N4 := X.number (w := 8) (lo := 1) (hi := 999) (k := kn) (j := 4) (by omega) (by omega) (by omega) h3 (by omega) tt3 f p (upd (upd (upd (upd (numbers) (5 * kn + 0) (nI v0)) (5 * kn + 1) (nI v1)) (5 * kn + 2) (nI v2)) (5 * kn + 3) (nI v3))
        simp only [n0', n1', n2', n3', n4', n99', n999'] at N4
        rcases N4 with ⟨v4, s7, e7, tk7, af7, mat7, mtk7, mv7, lo4, hi4, g4, cn4, mn4, tt4⟩ | ⟨tkx, stx, afx, kx, plx, xx, matx, mbgx, mtkx, mvx, cx, mx⟩
        rotate_left
        · refine Or.inr ⟨upd (upd (upd (upd (numbers) (5 * kn + 0) (nI v0)) (5 * kn + 1) (nI v1)) (5 * kn + 2) (nI v2)) (5 * kn + 3) (nI v3), cells, nI kn, upd ns kn (nI s1), upd nl kn (nI (e1 - s1)), tkx, stx, afx, kx, plx, mem, matx, mbgx, mtkx, mvx, na, ml, ?_, ?_⟩
          · rw [fX2_readKind, if_neg (nI_nn0 (by omega)), if_pos (lt_y' (y := 3) (b := 3) rfl rfl h3 (by omega)), y1, sob3, q9, sob3, if_neg i10, fX2_toldKind, t1, sb3, if_pos rfl, chkN h3 (by omega), chkN h3 (by omega), x1, sob3, nI_clamp' (by omega), nI_sub b1, cn0, sob7, if_neg i10, cn1, sob7, if_neg i10, cn2, sob7, if_neg i10, cn3, sob7, if_neg i10, cx, sob7, if_pos rfl, fX2_readKind_154, fX2_readKind_155, if_pos rfl, zb_in (Or.inl rfl)]
          · rw [mk2, fX8_readsKind_135, mp, sob7, mn0, sob8, mn1, sob8, mn2, sob8, mn3, sob8, mx, sob8, if_neg i10]
        obtain ⟨c2, fc, pl⟩ := PlOK.more (numbers2 := upd (upd (upd (upd (upd (numbers) (5 * kn + 0) (nI v0)) (5 * kn + 1) (nI v1)) (5 * kn + 2) (nI v2)) (5 * kn + 3) (nI v3)) (5 * kn + 4) (nI v4)) hP.1 h3 (fun q hq => by repeat (first | rfl | rw [upd_ne _ _ (by omega)])) (v := fun j => if j = 0 then v0 else if j = 1 then v1 else if j = 2 then v2 else if j = 3 then v3 else v4) (fun j hj => by
          rcases (show j = 0 ∨ j = 1 ∨ j = 2 ∨ j = 3 ∨ j = 4 by omega) with rfl | rfl | rfl | rfl | rfl
          · exact (show (upd (upd (upd (upd (upd (numbers) (5 * kn + 0) (nI v0)) (5 * kn + 1) (nI v1)) (5 * kn + 2) (nI v2)) (5 * kn + 3) (nI v3)) (5 * kn + 4) (nI v4)) (5 * kn + 0) = nI v0 by repeat (first | exact upd_same _ _ _ | rw [upd_ne _ _ (by omega)]))
          · exact (show (upd (upd (upd (upd (upd (numbers) (5 * kn + 0) (nI v0)) (5 * kn + 1) (nI v1)) (5 * kn + 2) (nI v2)) (5 * kn + 3) (nI v3)) (5 * kn + 4) (nI v4)) (5 * kn + 1) = nI v1 by repeat (first | exact upd_same _ _ _ | rw [upd_ne _ _ (by omega)]))
          · exact (show (upd (upd (upd (upd (upd (numbers) (5 * kn + 0) (nI v0)) (5 * kn + 1) (nI v1)) (5 * kn + 2) (nI v2)) (5 * kn + 3) (nI v3)) (5 * kn + 4) (nI v4)) (5 * kn + 2) = nI v2 by repeat (first | exact upd_same _ _ _ | rw [upd_ne _ _ (by omega)]))
          · exact (show (upd (upd (upd (upd (upd (numbers) (5 * kn + 0) (nI v0)) (5 * kn + 1) (nI v1)) (5 * kn + 2) (nI v2)) (5 * kn + 3) (nI v3)) (5 * kn + 4) (nI v4)) (5 * kn + 3) = nI v3 by repeat (first | exact upd_same _ _ _ | rw [upd_ne _ _ (by omega)]))
          · exact (show (upd (upd (upd (upd (upd (numbers) (5 * kn + 0) (nI v0)) (5 * kn + 1) (nI v1)) (5 * kn + 2) (nI v2)) (5 * kn + 3) (nI v3)) (5 * kn + 4) (nI v4)) (5 * kn + 4) = nI v4 by repeat (first | exact upd_same _ _ _ | rw [upd_ne _ _ (by omega)]))) ⟨lo0, hi0⟩ hi1 hi2 hi3 ⟨lo4, hi4⟩
        refine Or.inl ⟨s7, e7, tk7, af7, mat7, mtk7, mv7, upd (upd (upd (upd (upd (numbers) (5 * kn + 0) (nI v0)) (5 * kn + 1) (nI v1)) (5 * kn + 2) (nI v2)) (5 * kn + 3) (nI v3)) (5 * kn + 4) (nI v4), c2, upd (upd (upd (upd (upd (upd mem (4 + 5 * kn) (nI v0)) (4 + 5 * kn + 1) (nI v1)) (4 + 5 * kn + 2) (nI v2)) (4 + 5 * kn + 3) (nI v3)) (4 + 5 * kn + 4) (nI v4)) 1 (nI (kn + 1)), upd ns kn (nI s1), upd nl kn (nI (e1 - s1)), upd na kn (nI s1), upd ml kn (nI (e1 - s1)), fun j => if j = kn then s1 else S j, fun j => if j = kn then e1 - s1 else L j, by omega, ?_, ?_, tt4, ⟨pl, ?_, fun q hq => ?_⟩, fun k hk => ?_, by omega, fun j hj => ?_⟩
        · rw [fX2_readKind, if_neg (nI_nn0 (by omega)), if_pos (lt_y' (y := 3) (b := 3) rfl rfl h3 (by omega)), y1, sob3, q9, sob3, if_neg i10, fX2_toldKind, t1, sb3, if_pos rfl, chkN h3 (by omega), chkN h3 (by omega), x1, sob3, nI_clamp' (by omega), nI_sub b1, cn0, sob7, if_neg i10, cn1, sob7, if_neg i10, cn2, sob7, if_neg i10, cn3, sob7, if_neg i10, cn4, sob7, if_neg i10, fX2_readKind_155, if_neg i10, fc, sbA, zb_in (Or.inr rfl), nI_s]
        · rw [mk2]
          exact k135_ok h3 hP.2.1 mp mn0 mn1 mn2 mn3 mn4
        · exact upd_same _ _ _
        · by_cases y : q < 5 * kn
          · rw [upd_ne _ _ (by omega), upd_ne _ _ (by omega), upd_ne _ _ (by omega), upd_ne _ _ (by omega), upd_ne _ _ (by omega), upd_ne _ _ (by omega), hP.2.2 q y, upd_ne _ _ (by omega), upd_ne _ _ (by omega), upd_ne _ _ (by omega), upd_ne _ _ (by omega), upd_ne _ _ (by omega)]
          · obtain ⟨j, hj, rfl⟩ : ∃ j, j < 5 ∧ q = 5 * kn + j := ⟨q - 5 * kn, by omega, by omega⟩
            rw [← Nat.add_assoc]
            rcases (show j = 0 ∨ j = 1 ∨ j = 2 ∨ j = 3 ∨ j = 4 by omega) with rfl | rfl | rfl | rfl | rfl
            · exact (show (upd (upd (upd (upd (upd (upd mem (4 + 5 * kn) (nI v0)) (4 + 5 * kn + 1) (nI v1)) (4 + 5 * kn + 2) (nI v2)) (4 + 5 * kn + 3) (nI v3)) (4 + 5 * kn + 4) (nI v4)) 1 (nI (kn + 1))) (4 + 5 * kn + 0) = nI v0 by repeat (first | exact upd_same _ _ _ | rw [upd_ne _ _ (by omega)])).trans (show (upd (upd (upd (upd (upd (numbers) (5 * kn + 0) (nI v0)) (5 * kn + 1) (nI v1)) (5 * kn + 2) (nI v2)) (5 * kn + 3) (nI v3)) (5 * kn + 4) (nI v4)) (5 * kn + 0) = nI v0 by repeat (first | exact upd_same _ _ _ | rw [upd_ne _ _ (by omega)])).symm
            · exact (show (upd (upd (upd (upd (upd (upd mem (4 + 5 * kn) (nI v0)) (4 + 5 * kn + 1) (nI v1)) (4 + 5 * kn + 2) (nI v2)) (4 + 5 * kn + 3) (nI v3)) (4 + 5 * kn + 4) (nI v4)) 1 (nI (kn + 1))) (4 + 5 * kn + 1) = nI v1 by repeat (first | exact upd_same _ _ _ | rw [upd_ne _ _ (by omega)])).trans (show (upd (upd (upd (upd (upd (numbers) (5 * kn + 0) (nI v0)) (5 * kn + 1) (nI v1)) (5 * kn + 2) (nI v2)) (5 * kn + 3) (nI v3)) (5 * kn + 4) (nI v4)) (5 * kn + 1) = nI v1 by repeat (first | exact upd_same _ _ _ | rw [upd_ne _ _ (by omega)])).symm
            · exact (show (upd (upd (upd (upd (upd (upd mem (4 + 5 * kn) (nI v0)) (4 + 5 * kn + 1) (nI v1)) (4 + 5 * kn + 2) (nI v2)) (4 + 5 * kn + 3) (nI v3)) (4 + 5 * kn + 4) (nI v4)) 1 (nI (kn + 1))) (4 + 5 * kn + 2) = nI v2 by repeat (first | exact upd_same _ _ _ | rw [upd_ne _ _ (by omega)])).trans (show (upd (upd (upd (upd (upd (numbers) (5 * kn + 0) (nI v0)) (5 * kn + 1) (nI v1)) (5 * kn + 2) (nI v2)) (5 * kn + 3) (nI v3)) (5 * kn + 4) (nI v4)) (5 * kn + 2) = nI v2 by repeat (first | exact upd_same _ _ _ | rw [upd_ne _ _ (by omega)])).symm
            · exact (show (upd (upd (upd (upd (upd (upd mem (4 + 5 * kn) (nI v0)) (4 + 5 * kn + 1) (nI v1)) (4 + 5 * kn + 2) (nI v2)) (4 + 5 * kn + 3) (nI v3)) (4 + 5 * kn + 4) (nI v4)) 1 (nI (kn + 1))) (4 + 5 * kn + 3) = nI v3 by repeat (first | exact upd_same _ _ _ | rw [upd_ne _ _ (by omega)])).trans (show (upd (upd (upd (upd (upd (numbers) (5 * kn + 0) (nI v0)) (5 * kn + 1) (nI v1)) (5 * kn + 2) (nI v2)) (5 * kn + 3) (nI v3)) (5 * kn + 4) (nI v4)) (5 * kn + 3) = nI v3 by repeat (first | exact upd_same _ _ _ | rw [upd_ne _ _ (by omega)])).symm
            · exact (show (upd (upd (upd (upd (upd (upd mem (4 + 5 * kn) (nI v0)) (4 + 5 * kn + 1) (nI v1)) (4 + 5 * kn + 2) (nI v2)) (4 + 5 * kn + 3) (nI v3)) (4 + 5 * kn + 4) (nI v4)) 1 (nI (kn + 1))) (4 + 5 * kn + 4) = nI v4 by repeat (first | exact upd_same _ _ _ | rw [upd_ne _ _ (by omega)])).trans (show (upd (upd (upd (upd (upd (numbers) (5 * kn + 0) (nI v0)) (5 * kn + 1) (nI v1)) (5 * kn + 2) (nI v2)) (5 * kn + 3) (nI v3)) (5 * kn + 4) (nI v4)) (5 * kn + 4) = nI v4 by repeat (first | exact upd_same _ _ _ | rw [upd_ne _ _ (by omega)])).symm
        · rw [upd_ne _ _ (by omega), upd_ne _ _ (by omega), upd_ne _ _ (by omega), upd_ne _ _ (by omega), upd_ne _ _ (by omega), upd_ne _ _ (by omega)]
        · by_cases y : j = kn
          · subst y
            simp only [if_true, upd_same, true_and]
            refine ⟨by omega, q8, ?_, ?_, ?_⟩ <;> (rw [show s1 + (e1 - s1) = e1 by omega]; assumption)
          · simp only [if_neg y]
            rw [upd_ne _ _ y, upd_ne _ _ y, upd_ne _ _ y, upd_ne _ _ y]
            exact hN.hs j (by omega)
      · subst t4
        refine Or.inr ⟨numbers, cells, nI kn, ns, nl, tk1, nI s1, nI e1, 2, nI s1, mem, nI e1, nI s1, mtk1, mv1, na, ml, ?_, ?_⟩
        · rw [fX2_readKind, if_neg (nI_nn0 (by omega)), if_pos (lt_y' (y := 3) (b := 3) rfl rfl h3 (by omega)), y1, sob3, q9, sob3, if_neg i10, fX2_toldKind, t1, sb3, if_neg (nm1 q (by omega)), fX2_refuse, sob3]
        · rw [mk, if_pos q7, fX8_readsKind_52, if_pos rfl, if_pos q2, nI_sub b1, show (6 : Int32) = nI 6 from rfl, if_lt_n q8 (by omega), if_pos rfl, fX8_kindHere, t2, sb3, if_neg (nm1 q (by omega)), kind94]
  · have e3 : kn = 3 := by omega
    subst e3
    obtain ⟨R, r0, r1, -⟩ := X.name h f p
    refine Or.inr ⟨numbers, cells, nI 3, ns, nl, tk, st, af, 3, st, mem, mat, mbg, mtk, mv, na, ml, ?_, ?_⟩
    · rw [fX2_readKind, if_neg (by decide), if_neg (by decide), fX2_readKind_17, fX2_refuse, sob3]
    · rw [fX8_readsKind, hP.2.1, if_pos (show nI 3 = 3 from rfl), fX8_faults, if_pos rfl, sob3, fX8_readsKind_15, passes_bad, sob7]
      refine (r1 _ _ _).trans ?_
      rw [fX8_readsKind_47, kind52_bad, kind52_bad, ite_self, h.1, h.2.1]
theorem ply159_bad (mem tp : Nat → Int32) (n fk fp mat mbg mtk mv v1 v2 z : Int32) : fX8_readsPly_159 mem tp n fk fp mat mbg mtk mv 1 v1 v2 z = some (mem, fk, fp, mat, mbg, mtk, mv, 1) := by
  rw [fX8_readsPly_159, passes_bad, sob7, if_neg i10]
theorem ply140_bad (mem tp : Nat → Int32) (n fk fp mat mbg mtk mv v1 z : Int32) : fX8_readsPly_140 mem tp n fk fp mat mbg mtk mv 1 v1 z = some (mem, fk, fp, mat, mbg, mtk, mv, 1) := by
  rw [fX8_readsPly_140, if_neg i10, fX8_readsPly_154, ply159_bad]
theorem TX.angle (X : TX c n b tp) {s e : Nat} {tk st af mat mbg mtk mv : Int32} (h : TK n b s e tk st af mat mbg mtk mv) : ∃ A : Int32, (A = -1 ∨ ∃ a, a < 4 ∧ A = nI a ∧ tk = 1) ∧ fX2_spelledAngle b (nI n) tk st af = some A ∧ ∀ (β : Type) (K : Int32 → Option β), ((fX8_isWord tp mat mbg mtk 9).bind fun r38 => (if r38 = 0 then (fX8_isWord tp mat mbg mtk 10).bind fun r42 => (if r42 = 0 then (fX8_isWord tp mat mbg mtk 11).bind fun r46 => (if r46 = 0 then (fX8_isWord tp mat mbg mtk 12).bind fun r50 => (if r50 = 0 then K (-1) else K 3) else K 2) else K 1) else K 0)) = K A := by
  obtain ⟨r, a0, a1, a2, a3⟩ := X.word (w := 9) (by omega) h
  obtain ⟨q, b0, b1, b2, b3⟩ := X.word (w := 10) (by omega) h
  obtain ⟨u, c0, c1, c2, c3⟩ := X.word (w := 11) (by omega) h
  obtain ⟨v, d0, d1, d2, d3⟩ := X.word (w := 12) (by omega) h
  rw [fX2_spelledAngle, a1, b1, c1, d1, a2, b2, c2, d2]
  rcases a0 with rfl | rfl
  · rcases b0 with rfl | rfl
    · rcases c0 with rfl | rfl
      · rcases d0 with rfl | rfl
        · exact ⟨-1, Or.inl rfl, rfl, fun _ _ => rfl⟩
        · exact ⟨3, Or.inr ⟨3, by omega, rfl, (d3.mp rfl).1⟩, rfl, fun _ _ => rfl⟩
      · exact ⟨2, Or.inr ⟨2, by omega, rfl, (c3.mp rfl).1⟩, rfl, fun _ _ => rfl⟩
    · exact ⟨1, Or.inr ⟨1, by omega, rfl, (b3.mp rfl).1⟩, rfl, fun _ _ => rfl⟩
  · exact ⟨0, Or.inr ⟨0, by omega, rfl, (a3.mp rfl).1⟩, rfl, fun _ _ => rfl⟩
theorem TX.ply84_bad (X : TX c n b tp) {s e : Nat} {tk st af mat mbg mtk mv : Int32} (h : TK n b s e tk st af mat mbg mtk mv) (mem : Nat → Int32) (fk fp v1 z : Int32) : fX8_readsPly_84 mem tp (nI n) fk fp mat mbg mtk mv 1 v1 z = some (mem, fk, fp, mat, mbg, mtk, mv, 1) := by
  obtain ⟨A, -, -, hK⟩ := X.angle h
  rw [fX8_readsPly_84, passes_bad, sob7]
  exact (hK _ (fun z => fX8_readsPly_140 mem tp (nI n) fk fp mat mbg mtk mv 1 v1 z)).trans (ply140_bad _ _ _ _ _ _ _ _ _ _ _)
theorem TX.ply84_no (X : TX c n b tp) {s e : Nat} {tk st af mat mbg mtk mv : Int32} (h : TK n b s e tk st af mat mbg mtk mv) (mem : Nat → Int32) (fk fp v1 : Int32) : fX8_readsPly_84 mem tp (nI n) fk fp mat mbg mtk mv 0 v1 0 = some (mem, 1, mbg, mat, mbg, mtk, mv, 1) := by
  obtain ⟨A, -, -, hK⟩ := X.angle h
  rw [fX8_readsPly_84, passes_no, sob7]
  exact (hK _ (fun z => fX8_readsPly_140 mem tp (nI n) 1 mbg mat mbg mtk mv 1 v1 z)).trans (ply140_bad _ _ _ _ _ _ _ _ _ _ _)
theorem TX.ply63_bad (X : TX c n b tp) {s e : Nat} {tk st af mat mbg mtk mv : Int32} (h : TK n b s e tk st af mat mbg mtk mv) (mem : Nat → Int32) (fk fp v1 : Int32) : fX8_readsPly_63 mem tp (nI n) fk fp mat mbg mtk mv 1 v1 = some (mem, fk, fp, mat, mbg, mtk, mv, 1) := by
  rw [fX8_readsPly_63, if_neg i10, fX8_readsPly_79, X.ply84_bad h]

theorem TX.plyLine (X : TX c n b tp) {s e : Nat} {tk st af mat mbg mtk mv : Int32} (h : TK n b s e tk st af mat mbg mtk mv) (htk : tk = 1) {rows sizes mem ns nl na ml : Nat → Int32} {kn : Nat} {S L : Nat → Nat} {l : List Nat} (hl : l.length ≤ 8) (ht : ∀ t ∈ l, t < 4 * kn) (hr : rows 0 = pk l) (hz : sizes 0 = nI l.length) (hm : mem 1 = nI kn) (hm2 : mem 2 = nI l.length) (hN : NM c n kn S L ns nl na ml) (f p : Int32) : (∃ (t s' e' : Nat) (tk' af' mat' mtk' mv' : Int32), t < 4 * kn ∧ l.length < 8 ∧ s < s' ∧ fX2_readPly rows sizes (nI kn) ns nl b (nI n) tk st af f p = some (1, upd rows 0 (pk (l ++ [t])), upd sizes 0 (nI (l.length + 1)), tk', nI s', af', f, p) ∧ fX8_readsPly mem tp (nI n) f p mat mbg mtk mv 0 na ml = some (upd (upd mem (19 + l.length) (nI t)) 2 (nI (l.length + 1)), f, p, mat', nI s', mtk', mv', 0) ∧ TK n b s' e' tk' (nI s') af' mat' (nI s') mtk' mv') ∨ (∃ (tk' st' af' k pl : Int32) (mem' : Nat → Int32) (mat' mbg' mtk' mv' : Int32), fX2_readPly rows sizes (nI kn) ns nl b (nI n) tk st af f p = some (0, rows, sizes, tk', st', af', k, pl) ∧ fX8_readsPly mem tp (nI n) f p mat mbg mtk mv 0 na ml = some (mem', k, pl, mat', mbg', mtk', mv', 1)) := by
  have hn := X.hn
  have k3 := hN.k3
  by_cases h8 : l.length < 8
  · obtain ⟨s1, e1, tk1, af1, mat1, mtk1, mv1, y0, y1, y2, y3⟩ := X.go h (by rw [htk]; decide)
    obtain ⟨R, -, -, r2⟩ := X.name y3 f p
    have b1 := y3.2.2.1
    have b2 := y3.2.2.2.1
    have mk : fX8_readsPly mem tp (nI n) f p mat mbg mtk mv 0 na ml = if mtk1 = 1 then (fX8_kindHere mem tp mat1 (nI s1) na ml).bind (fun r17 => fX8_readsPly_37 mem tp (nI n) f p mat1 (nI s1) mtk1 mv1 0 r17) else fX8_readsPly_37 mem tp (nI n) f p mat1 (nI s1) mtk1 mv1 0 (-1) := by
      rw [fX8_readsPly, hm2, if_neg (eq_n' (y := 8) (b := 8) rfl rfl (by omega) (by omega) (by omega)), fX8_readsPly_16, passes_ok (by decide) y2, sob7]
    have two : ∀ (r : Int32), mtk1 = 1 → fX8_kindHere mem tp mat1 (nI s1) na ml = some r → r = -1 → fX8_readsPly mem tp (nI n) f p mat mbg mtk mv 0 na ml = some (mem, 2, nI s1, mat1, nI s1, mtk1, mv1, 1) := fun r z1 z2 z3 => by
      rw [mk, if_pos z1, z2, sb3, z3, fX8_readsPly_37, if_pos rfl, if_pos z1, if_pos rfl, fX8_faults, if_pos rfl, sob3, X.ply63_bad y3]
    rcases r2 with ⟨q1, q2, q3, q9⟩ | ⟨q1, q2, -, q4, q5, -, -, q7, q9⟩ | ⟨q1, q2, -, q4, q5, -, q7, q8, w0, w2, w3, q9⟩
    · refine Or.inr ⟨tk1, nI s1, af1, 1, nI s1, mem, mat1, nI s1, mtk1, mv1, ?_, ?_⟩
      · rw [fX2_readPly, hz, if_pos (lt_y' (y := 8) (b := 8) rfl rfl h8 (by omega)), y1, sob3, q9, sob3, if_pos rfl]
      · rw [mk, if_neg q2, fX8_readsPly_37, if_pos rfl, if_neg q2, fX8_readsPly_63, if_pos rfl, if_neg q2, X.ply84_no y3]
    · refine Or.inr ⟨tk1, nI s1, af1, 2, nI s1, mem, mat1, nI s1, mtk1, mv1, ?_, ?_⟩
      · rw [fX2_readPly, hz, if_pos (lt_y' (y := 8) (b := 8) rfl rfl h8 (by omega)), y1, sob3, q9, sob3, if_pos rfl]
      · subst q5
        obtain ⟨r, t1, t2, t3⟩ := X.told hN hm b1 b2 kn 0 FU FU (by omega) (FU_gt (by omega)) (FU_gt (by omega))
        rw [n0'] at t2
        rcases t3 with ⟨t3, -⟩ | ⟨q, t3, t4, t5⟩
        · exact two r q2 t2 t3
        · obtain ⟨-, -, -, -, -, u6, u7, u8, u9⟩ := hN.hs q t3
          rcases q7 with (q7 | q7 | q7) | q7
          · exact absurd (t5.wd q7) u7
          · exact absurd (t5.wd q7) u8
          · exact absurd (t5.wd q7) u9
          · have := t5.1; omega
    · subst q4
      subst q5
      obtain ⟨r, t1, t2, t3⟩ := X.told hN hm b1 b2 kn 0 FU FU (by omega) (FU_gt (by omega)) (FU_gt (by omega))
      rw [n0'] at t1 t2
      rcases t3 with ⟨t3, -⟩ | ⟨q, t3, t4, -⟩
      · refine Or.inr ⟨tk1, nI s1, nI e1, 2, nI s1, mem, nI e1, nI s1, mtk1, mv1, ?_, two r q2 t2 t3⟩
        rw [fX2_readPly, hz, if_pos (lt_y' (y := 8) (b := 8) rfl rfl h8 (by omega)), y1, sob3, q9, sob3, if_neg i10, fX2_toldKind, t1, sb3, if_pos t3, fX2_refuse, sob3]
      · subst t4
        obtain ⟨s2, e2, tk2, af2, mat2, mtk2, mv2, x0, x1, x2, x3⟩ := X.go y3 (by rw [q1]; decide)
        obtain ⟨A, g0, g1, hK⟩ := X.angle x3
        have mk2 : fX8_readsPly mem tp (nI n) f p mat mbg mtk mv 0 na ml = fX8_readsPly_140 mem tp (nI n) f p mat2 (nI s2) mtk2 mv2 0 (nI q) A := by
          rw [mk, if_pos q2, fX8_kindHere, t2, sb3, fX8_readsPly_37, if_pos rfl, if_pos q2, if_neg (nm1 q (by omega)), fX8_readsPly_63, if_pos rfl, if_pos q2, fX8_readsPly_79, fX8_readsPly_84, passes_ok (by decide) x2, sob7]
          exact hK _ (fun z => fX8_readsPly_140 mem tp (nI n) f p mat2 (nI s2) mtk2 mv2 0 (nI q) z)
        rcases g0 with rfl | ⟨a, ha, rfl, htk2⟩
        · refine Or.inr ⟨tk2, nI s2, af2, 1, nI s2, mem, mat2, nI s2, mtk2, mv2, ?_, ?_⟩
          · rw [fX2_readPly, hz, if_pos (lt_y' (y := 8) (b := 8) rfl rfl h8 (by omega)), y1, sob3, q9, sob3, if_neg i10, fX2_toldKind, t1, sb3, if_neg (nm1 q (by omega)), x1, sob3, g1, sb3, if_pos rfl, fX2_refuse, sob3]
          · rw [mk2, fX8_readsPly_140, if_pos rfl, if_pos rfl, fX8_readsPly_159, passes_no, sob7, if_neg i10]
        · obtain ⟨s3, e3, tk3, af3, mat3, mtk3, mv3, z0, z1, z2, z3⟩ := X.go x3 (by rw [htk2]; decide)
          have em : (nI q * 4 + nI a) = nI (4 * q + a) := by rw [lit_nI4, nI_mul, nI_add, Nat.mul_comm]
          have em2 : (4 * nI q + nI a) = nI (4 * q + a) := by rw [lit_nI4, nI_mul, nI_add]
          refine Or.inl ⟨4 * q + a, s3, e3, tk3, af3, mat3, mtk3, mv3, by omega, h8, by omega, ?_, ?_, z3⟩
          · rw [fX2_readPly, hz, if_pos (lt_y' (y := 8) (b := 8) rfl rfl h8 (by omega)), y1, sob3, q9, sob3, if_neg i10, fX2_toldKind, t1, sb3, if_neg (nm1 q (by omega)), x1, sob3, g1, sb3, if_neg (nm1 a ha), z1, sob3, hr, em, show (4 : Int32) * nI l.length = nI (4 * l.length) from (by rw [lit_nI4, nI_mul]), pk_push (fun t h' => by have := ht t h'; omega) (by omega) h8, nI_s]
          · rw [mk2, fX8_readsPly_140, if_pos rfl, if_neg (nm1 a ha), fX8_readsPly_154, fX8_readsPly_159, passes_ok (by decide) z2, sob7, if_pos rfl, hm2, lit_nI19, nI_add, chkN (by omega) (by omega), nI_clamp' (by omega), em2, upd_ne _ _ (by omega), hm2, nI_s]
  · have e8 : l.length = 8 := by omega
    refine Or.inr ⟨tk, st, af, 3, st, mem, mat, mbg, mtk, mv, ?_, ?_⟩
    · rw [fX2_readPly, hz, e8, if_neg (by decide), fX2_refuse, sob3]
    · have hs := h.1
      have hb := h.2.1
      have h1 := h.2.2.1
      have h2 := h.2.2.2.1
      have h3 : mtk = 1 ∧ mat = nI e := by
        rcases h.2.2.2.2 with ⟨z, -⟩ | ⟨-, -, z3, ⟨-, z⟩ | ⟨z, -⟩ | ⟨z, -⟩ | ⟨z, -⟩⟩
        · rw [htk] at z; exact absurd z (by decide)
        · exact ⟨z, z3⟩
        · rw [htk] at z; exact absurd z (by decide)
        · rw [htk] at z; exact absurd z (by decide)
        · rw [htk] at z; exact absurd z (by decide)
      obtain ⟨r, t1, t2, t3⟩ := X.told hN hm h1 h2 kn 0 FU FU (by omega) (FU_gt (by omega)) (FU_gt (by omega))
      rw [n0', ← h3.2, ← hb] at t2
      rw [fX8_readsPly, hm2, e8, if_pos (show nI 8 = 8 from rfl), fX8_faults, if_pos rfl, sob3, fX8_readsPly_16, passes_bad, sob7, if_pos h3.1, fX8_kindHere, t2, sb3, fX8_readsPly_37, if_neg i10, X.ply63_bad h, hs, hb]
end
