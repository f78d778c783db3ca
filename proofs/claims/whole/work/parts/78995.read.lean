/-! all lines -/
theorem fault67 (f2 : Nat) (mem tp : Nat → Int32) (n fk fp mat mbg mtk mv : Int32) (na ml : Nat → Int32) : fX8_readsAll_67 (fX8_readsAll_0 (f2 + 1)) mem tp n fk fp mat mbg mtk mv 1 na ml = some (upd mem 3 (mem 3 + 1), fk, fp, mat, mbg, mtk, mv, 1, na, ml) := by
  rw [fX8_readsAll_67, if_neg i10, fX8_readsAll_83, fX8_readsAll_88, passes_bad, sob7, fX8_readsAll_0, if_neg i10]
theorem l58_0 (numbers cells rows sizes rooms : Nat → Int32) (lines kinds : Int32) (ns nl b : Nat → Int32) (n tk st af f p : Int32) : fX2_readLine_58 numbers cells rows sizes rooms lines kinds ns nl b n tk st af f p 0 = some (0, numbers, cells, rows, sizes, rooms, lines, kinds, ns, nl, tk, st, af, f, p) := by
  rw [fX2_readLine_58, if_pos rfl]
def DR (kn ln : Nat) (l : List Nat) (numbers cells rows sizes rooms mem : Nat → Int32) : Prop :=
  PK numbers cells kn mem ∧ l.length ≤ 8 ∧ (∀ t ∈ l, t < 4 * kn) ∧ rows 0 = pk l ∧ sizes 0 = nI l.length ∧ mem 2 = nI l.length ∧ mem 3 = nI ln ∧ (∀ p, p < l.length → mem (19 + p) = nI (l.getD p 0)) ∧ ((ln = 0 ∧ kn = 0 ∧ l = [] ∧ rooms 0 = 0 ∧ ∀ k, k < 27 → mem k = 0) ∨ (1 ≤ ln ∧ ∃ rm : Nat, 1 ≤ rm ∧ rm ≤ 8 ∧ rooms 0 = nI rm ∧ mem 0 = nI rm))
section
variable {c : Nat → Nat} {n : Nat} {b tp : Nat → Int32}
theorem TX.tail (X : TX c n b tp) {s e : Nat} {tk st af mat mbg mtk mv : Int32} (h : TK n b s e tk st af mat mbg mtk mv) (f p : Int32) {mem : Nat → Int32} {q : Nat} (hq : mem 3 = nI q) (numbers cells rows sizes rooms : Nat → Int32) (kinds : Int32) (ns nl na ml : Nat → Int32) : (∃ (s' e' : Nat) (tk' af' mat' mtk' mv' : Int32), s < s' ∧ fX2_readLine_58 numbers cells rows sizes rooms (nI q) kinds ns nl b (nI n) tk st af f p 1 = some (1, numbers, cells, rows, sizes, rooms, nI (q + 1), kinds, ns, nl, tk', nI s', af', f, p) ∧ (∀ f2, fX8_readsAll_67 (fX8_readsAll_0 f2) mem tp (nI n) f p mat mbg mtk mv 0 na ml = fX8_readsAll_0 f2 (upd mem 3 (nI (q + 1))) tp (nI n) f p mat' (nI s') mtk' mv' 0 na ml) ∧ TK n b s' e' tk' (nI s') af' mat' (nI s') mtk' mv') ∨ (fX2_readLine_58 numbers cells rows sizes rooms (nI q) kinds ns nl b (nI n) tk st af f p 1 = some (0, numbers, cells, rows, sizes, rooms, nI q, kinds, ns, nl, tk, st, af, 1, st) ∧ ∀ f2, fX8_readsAll_67 (fX8_readsAll_0 (f2 + 1)) mem tp (nI n) f p mat mbg mtk mv 0 na ml = some (upd mem 3 (nI (q + 1)), 1, st, mat, mbg, mtk, mv, 1, na, ml)) := by
  have hc : (tk = 3 ∧ mtk = 3) ∨ (¬ tk = 3 ∧ ¬ mtk = 3) := by
    rcases h.2.2.2.2 with ⟨z, y, -⟩ | ⟨-, -, -, ⟨z, y⟩ | ⟨z, y, -⟩ | ⟨z, y⟩ | ⟨z, y⟩⟩ <;> rw [z, y] <;> decide
  rcases hc with ⟨z, y⟩ | ⟨z, y⟩
  · obtain ⟨s1, e1, tk1, af1, mat1, mtk1, mv1, y0, y1, y2, y3⟩ := X.go h (by rw [z]; decide)
    refine Or.inl ⟨s1, e1, tk1, af1, mat1, mtk1, mv1, y0, ?_, fun f2 => ?_, y3⟩
    · rw [fX2_readLine_58, if_neg i10, if_pos z, y1, sob3, nI_s]
    · rw [fX8_readsAll_67, if_pos rfl, if_pos y, fX8_readsAll_83, fX8_readsAll_88, passes_ok (by decide) y2, sob7, hq, nI_s]
  · refine Or.inr ⟨?_, fun f2 => ?_⟩
    · rw [fX2_readLine_58, if_neg i10, if_neg z, fX2_refuse, sob3]
    · rw [fX8_readsAll_67, if_pos rfl, if_neg y, fX8_readsAll_88, passes_no, sob7, hq, nI_s, fX8_readsAll_0, if_neg i10, h.1, h.2.1]
theorem TX.lineStep (X : TX c n b tp) {s e : Nat} {tk st af mat mbg mtk mv : Int32} (h : TK n b s e tk st af mat mbg mtk mv) (htk : ¬ tk = 5) (f p : Int32) {numbers cells rows sizes rooms mem ns nl na ml : Nat → Int32} {kn q : Nat} (hq : q ≤ 600) {l : List Nat} {S L : Nat → Nat} (hD : DR kn q l numbers cells rows sizes rooms mem) (hN : NM c n kn S L ns nl na ml) : (∃ (s' e' : Nat) (tk' af' mat' mtk' mv' : Int32) (numbers' cells' rows' sizes' rooms' mem' ns' nl' na' ml' : Nat → Int32) (kn' : Nat) (l' : List Nat) (S' L' : Nat → Nat), s < s' ∧ fX2_readLine numbers cells rows sizes rooms (nI q) (nI kn) ns nl b (nI n) tk st af f p = some (1, numbers', cells', rows', sizes', rooms', nI (q + 1), nI kn', ns', nl', tk', nI s', af', f, p) ∧ (∀ f2, fX8_readsAll_0 (f2 + 1) mem tp (nI n) f p mat mbg mtk mv 0 na ml = fX8_readsAll_0 f2 mem' tp (nI n) f p mat' (nI s') mtk' mv' 0 na' ml') ∧ TK n b s' e' tk' (nI s') af' mat' (nI s') mtk' mv' ∧ DR kn' (q + 1) l' numbers' cells' rows' sizes' rooms' mem' ∧ NM c n kn' S' L' ns' nl' na' ml') ∨ (∃ (numbers' cells' rows' sizes' rooms' : Nat → Int32) (lines' kinds' : Int32) (ns' nl' : Nat → Int32) (tk' st' af' k pl : Int32) (mem' : Nat → Int32) (mat' mbg' mtk' mv' : Int32) (na' ml' : Nat → Int32), fX2_readLine numbers cells rows sizes rooms (nI q) (nI kn) ns nl b (nI n) tk st af f p = some (0, numbers', cells', rows', sizes', rooms', lines', kinds', ns', nl', tk', st', af', k, pl) ∧ ∀ f2, fX8_readsAll_0 (f2 + 2) mem tp (nI n) f p mat mbg mtk mv 0 na ml = some (mem', k, pl, mat', mbg', mtk', mv', 1, na', ml')) := by
  have hn := X.hn
  obtain ⟨hP, d2, d3, d4, d5, d6, d7, d8, d9⟩ := hD
  have k3 := hN.k3
  have hmt : ¬ mtk = 0 := by
    rcases h.2.2.2.2 with ⟨z, y, -⟩ | ⟨-, -, -, ⟨z, y⟩ | ⟨z, y, -⟩ | ⟨z, y⟩ | ⟨z, y⟩⟩
    · exact absurd z htk
    all_goals (rw [y]; decide)
  by_cases hq0 : q = 0
  · subst hq0
    have e0 : nI 0 = (0 : Int32) := rfl
    rcases X.plateLine h f p rooms mem with ⟨v, s1, e1, tk1, af1, mat1, mtk1, mv1, v1, v8, y0, y1, y2, y3⟩ | ⟨tk1, st1, af1, k, pl, mem1, mat1, mbg1, mtk1, mv1, y1, y2⟩
    · rcases X.tail y3 f p (mem := upd mem 0 (nI v)) (q := 0) (by rw [upd_ne _ _ (by omega), d7]) numbers cells rows sizes (upd rooms 0 (nI v)) (nI kn) ns nl na ml with ⟨s2, e2, tk2, af2, mat2, mtk2, mv2, x0, x1, x2, x3⟩ | ⟨x1, x2⟩
      · refine Or.inl ⟨s2, e2, tk2, af2, mat2, mtk2, mv2, numbers, cells, rows, sizes, upd rooms 0 (nI v), upd (upd mem 0 (nI v)) 3 (nI (0 + 1)), ns, nl, na, ml, kn, l, S, L, by omega, ?_, fun f2 => ?_, x3, ⟨⟨hP.1, ?_, fun q hq => ?_⟩, d2, d3, d4, d5, ?_, ?_, fun p hp => ?_, Or.inr ⟨by omega, v, v1, v8, ?_, ?_⟩⟩, hN⟩
        · rw [fX2_readLine, if_pos e0, y1, sob7, x1]
        · rw [fX8_readsAll_0, if_pos rfl, if_neg hmt, d7, if_pos e0, y2, sob8, x2]
        · rw [upd_ne _ _ (by omega), upd_ne _ _ (by omega), hP.2.1]
        · rw [upd_ne _ _ (by omega), upd_ne _ _ (by omega), hP.2.2 q hq]
        · rw [upd_ne _ _ (by omega), upd_ne _ _ (by omega), d6]
        · exact upd_same _ _ _
        · rw [upd_ne _ _ (by omega), upd_ne _ _ (by omega), d8 p hp]
        · exact upd_same _ _ _
        · rw [upd_ne _ _ (by omega), upd_same]
      · refine Or.inr ⟨numbers, cells, rows, sizes, upd rooms 0 (nI v), nI 0, nI kn, ns, nl, tk1, nI s1, af1, 1, nI s1, upd (upd mem 0 (nI v)) 3 (nI (0 + 1)), mat1, nI s1, mtk1, mv1, na, ml, ?_, fun f2 => ?_⟩
        · rw [fX2_readLine, if_pos e0, y1, sob7, x1]
        · rw [fX8_readsAll_0, if_pos rfl, if_neg hmt, d7, if_pos e0, y2, sob8, x2]
    · refine Or.inr ⟨numbers, cells, rows, sizes, rooms, nI 0, nI kn, ns, nl, tk1, st1, af1, k, pl, upd mem1 3 (mem1 3 + 1), mat1, mbg1, mtk1, mv1, na, ml, ?_, fun f2 => ?_⟩
      · rw [fX2_readLine, if_pos e0, y1, sob7, l58_0]
      · rw [fX8_readsAll_0, if_pos rfl, if_neg hmt, d7, if_pos e0, y2, sob8, fault67]
  · have n0 : ¬ nI q = 0 := fun z => hq0 ((nI_inj (by omega) (by omega)).mp (z.trans (show (0 : Int32) = nI 0 from rfl)))
    obtain ⟨rm, r1, r8, r2, r3⟩ : ∃ rm : Nat, 1 ≤ rm ∧ rm ≤ 8 ∧ rooms 0 = nI rm ∧ mem 0 = nI rm := by
      rcases d9 with z | z
      · exact absurd z.1 hq0
      · exact z.2
    obtain ⟨r, a0, a1, a2, a3⟩ := X.word (w := 2) (by omega) h
    obtain ⟨u, b0, b1, b2, b3⟩ := X.word (w := 3) (by omega) h
    rcases a0 with rfl | rfl
    · rcases b0 with rfl | rfl
      · refine Or.inr ⟨numbers, cells, rows, sizes, rooms, nI q, nI kn, ns, nl, tk, st, af, 1, st, upd mem 3 (mem 3 + 1), mat, mbg, mtk, mv, na, ml, ?_, fun f2 => ?_⟩
        · rw [fX2_readLine, if_neg n0, a1, sb3, if_pos rfl, b1, sb3, if_pos rfl, fX2_refuse, sob3, l58_0]
        · rw [fX8_readsAll_0, if_pos rfl, if_neg hmt, d7, if_neg n0, a2, sb3, if_pos rfl, b2, sb3, if_pos rfl, fX8_faults, if_pos rfl, sob3, fault67, d7, h.1, h.2.1]
      · rcases X.plyLine h (b3.mp rfl).1 d2 d3 d4 d5 hP.2.1 d6 hN f p with ⟨t, s1, e1, tk1, af1, mat1, mtk1, mv1, t0, t8, y0, y1, y2, y3⟩ | ⟨tk1, st1, af1, k, pl, mem1, mat1, mbg1, mtk1, mv1, y1, y2⟩
        · rcases X.tail y3 f p (mem := upd (upd mem (19 + l.length) (nI t)) 2 (nI (l.length + 1))) (q := q) (by rw [upd_ne _ _ (by omega), upd_ne _ _ (by omega), d7]) numbers cells (upd rows 0 (pk (l ++ [t]))) (upd sizes 0 (nI (l.length + 1))) rooms (nI kn) ns nl na ml with ⟨s2, e2, tk2, af2, mat2, mtk2, mv2, x0, x1, x2, x3⟩ | ⟨x1, x2⟩
          · refine Or.inl ⟨s2, e2, tk2, af2, mat2, mtk2, mv2, numbers, cells, upd rows 0 (pk (l ++ [t])), upd sizes 0 (nI (l.length + 1)), rooms, upd (upd (upd mem (19 + l.length) (nI t)) 2 (nI (l.length + 1))) 3 (nI (q + 1)), ns, nl, na, ml, kn, l ++ [t], S, L, by omega, ?_, fun f2 => ?_, x3, ⟨⟨hP.1, ?_, fun q hq => ?_⟩, ?_, fun x hx => ?_, upd_same _ _ _, ?_, ?_, upd_same _ _ _, fun p hp => ?_, Or.inr ⟨by omega, rm, r1, r8, r2, ?_⟩⟩, hN⟩
            · rw [fX2_readLine, if_neg n0, a1, sb3, if_pos rfl, b1, sb3, if_neg i10, y1, sob8, x1]
            · rw [fX8_readsAll_0, if_pos rfl, if_neg hmt, d7, if_neg n0, a2, sb3, if_pos rfl, b2, sb3, if_neg i10, y2, sob8, x2]
            · rw [upd_ne _ _ (by omega), upd_ne _ _ (by omega), upd_ne _ _ (by omega), hP.2.1]
            · rw [upd_ne _ _ (by omega), upd_ne _ _ (by omega), upd_ne _ _ (by omega), hP.2.2 q hq]
            · rw [List.length_append]; exact t8
            · rcases List.mem_append.mp hx with z | z
              · exact d3 x z
              · rw [List.mem_singleton.mp z]; exact t0
            · rw [upd_same, List.length_append]; rfl
            · rw [upd_ne _ _ (by omega), upd_same, List.length_append]; rfl
            · rw [List.length_append] at hp
              have hp' : p < l.length + 1 := hp
              rw [upd_ne _ _ (by omega), upd_ne _ _ (by omega)]
              by_cases z : p = l.length
              · rw [z, upd_same, List.getD_eq_getElem?_getD, List.getElem?_append_right (Nat.le_refl _), Nat.sub_self]; rfl
              · rw [upd_ne _ _ (by omega), d8 p (by omega), List.getD_eq_getElem?_getD, List.getD_eq_getElem?_getD, List.getElem?_append_left (by omega)]
            · rw [upd_ne _ _ (by omega), upd_ne _ _ (by omega), upd_ne _ _ (by omega), r3]
          · refine Or.inr ⟨numbers, cells, upd rows 0 (pk (l ++ [t])), upd sizes 0 (nI (l.length + 1)), rooms, nI q, nI kn, ns, nl, tk1, nI s1, af1, 1, nI s1, upd (upd (upd mem (19 + l.length) (nI t)) 2 (nI (l.length + 1))) 3 (nI (q + 1)), mat1, nI s1, mtk1, mv1, na, ml, ?_, fun f2 => ?_⟩
            · rw [fX2_readLine, if_neg n0, a1, sb3, if_pos rfl, b1, sb3, if_neg i10, y1, sob8, x1]
            · rw [fX8_readsAll_0, if_pos rfl, if_neg hmt, d7, if_neg n0, a2, sb3, if_pos rfl, b2, sb3, if_neg i10, y2, sob8, x2]
        · refine Or.inr ⟨numbers, cells, rows, sizes, rooms, nI q, nI kn, ns, nl, tk1, st1, af1, k, pl, upd mem1 3 (mem1 3 + 1), mat1, mbg1, mtk1, mv1, na, ml, ?_, fun f2 => ?_⟩
          · rw [fX2_readLine, if_neg n0, a1, sb3, if_pos rfl, b1, sb3, if_neg i10, y1, sob8, l58_0]
          · rw [fX8_readsAll_0, if_pos rfl, if_neg hmt, d7, if_neg n0, a2, sb3, if_pos rfl, b2, sb3, if_neg i10, y2, sob8, fault67]
    · rcases X.kindLine h (a3.mp rfl).1 hP hN f p with ⟨s1, e1, tk1, af1, mat1, mtk1, mv1, numbers1, cells1, mem1, ns1, nl1, na1, ml1, S1, L1, y0, y1, y2, y3, y4, y5, y6⟩ | ⟨numbers1, cells1, kinds1, ns1, nl1, tk1, st1, af1, k, pl, mem1, mat1, mbg1, mtk1, mv1, na1, ml1, y1, y2⟩
      · rcases X.tail y3 f p (mem := mem1) (q := q) (by rw [y5 3 (by omega), d7]) numbers1 cells1 rows sizes rooms (nI (kn + 1)) ns1 nl1 na1 ml1 with ⟨s2, e2, tk2, af2, mat2, mtk2, mv2, x0, x1, x2, x3⟩ | ⟨x1, x2⟩
        · refine Or.inl ⟨s2, e2, tk2, af2, mat2, mtk2, mv2, numbers1, cells1, rows, sizes, rooms, upd mem1 3 (nI (q + 1)), ns1, nl1, na1, ml1, kn + 1, l, S1, L1, by omega, ?_, fun f2 => ?_, x3, ⟨⟨y4.1, ?_, fun z hz => ?_⟩, d2, fun x hx => by have := d3 x hx; omega, d4, d5, ?_, upd_same _ _ _, fun p hp => ?_, Or.inr ⟨by omega, rm, r1, r8, r2, ?_⟩⟩, y6⟩
          · rw [fX2_readLine, if_neg n0, a1, sb3, if_neg i10, y1, sob11, x1]
          · rw [fX8_readsAll_0, if_pos rfl, if_neg hmt, d7, if_neg n0, a2, sb3, if_neg i10, y2, sob10, x2]
          · rw [upd_ne _ _ (by omega), y4.2.1]
          · rw [upd_ne _ _ (by omega), y4.2.2 z hz]
          · rw [upd_ne _ _ (by omega), y5 2 (by omega), d6]
          · rw [upd_ne _ _ (by omega), y5 (19 + p) (by omega), d8 p hp]
          · rw [upd_ne _ _ (by omega), y5 0 (by omega), r3]
        · refine Or.inr ⟨numbers1, cells1, rows, sizes, rooms, nI q, nI (kn + 1), ns1, nl1, tk1, nI s1, af1, 1, nI s1, upd mem1 3 (nI (q + 1)), mat1, nI s1, mtk1, mv1, na1, ml1, ?_, fun f2 => ?_⟩
          · rw [fX2_readLine, if_neg n0, a1, sb3, if_neg i10, y1, sob11, x1]
          · rw [fX8_readsAll_0, if_pos rfl, if_neg hmt, d7, if_neg n0, a2, sb3, if_neg i10, y2, sob10, x2]
      · refine Or.inr ⟨numbers1, cells1, rows, sizes, rooms, nI q, kinds1, ns1, nl1, tk1, st1, af1, k, pl, upd mem1 3 (mem1 3 + 1), mat1, mbg1, mtk1, mv1, na1, ml1, ?_, fun f2 => ?_⟩
        · rw [fX2_readLine, if_neg n0, a1, sb3, if_neg i10, y1, sob11, l58_0]
        · rw [fX8_readsAll_0, if_pos rfl, if_neg hmt, d7, if_neg n0, a2, sb3, if_neg i10, y2, sob10, fault67]
theorem TX.loop (X : TX c n b tp) (f p told acts : Int32) : ∀ (m s e q f1 f2 : Nat) (tk st af mat mbg mtk mv : Int32) (numbers cells rows sizes rooms mem ns nl na ml : Nat → Int32) (kn : Nat) (l : List Nat) (S L : Nat → Nat), n - s ≤ m → q ≤ s → m + 1 < f1 → m + 2 < f2 → TK n b s e tk st af mat mbg mtk mv → DR kn q l numbers cells rows sizes rooms mem → NM c n kn S L ns nl na ml → (∃ (numbers' cells' rows' sizes' rooms' mem' ns' nl' na' ml' : Nat → Int32) (tk' st' af' mat' mbg' mtk' mv' : Int32) (kn' q' : Nat) (l' : List Nat), q' ≤ n ∧ fX2_read_30 f1 numbers cells rows sizes rooms told (nI q) (nI kn) acts ns nl b (nI n) tk st af f p 1 (nI q) = some (1, numbers', cells', rows', sizes', rooms', (if q' = 0 then 0 else 1), nI q', nI kn', acts, ns', nl', tk', st', af', f, p) ∧ fX8_readsAll_0 f2 mem tp (nI n) f p mat mbg mtk mv 0 na ml = some (mem', f, p, mat', mbg', mtk', mv', 0, na', ml') ∧ DR kn' q' l' numbers' cells' rows' sizes' rooms' mem') ∨ (∃ (numbers' cells' rows' sizes' rooms' : Nat → Int32) (told' lines' kinds' acts' : Int32) (ns' nl' : Nat → Int32) (tk' st' af' k pl : Int32) (mem' : Nat → Int32) (mat' mbg' mtk' mv' : Int32) (na' ml' : Nat → Int32), fX2_read_30 f1 numbers cells rows sizes rooms told (nI q) (nI kn) acts ns nl b (nI n) tk st af f p 1 (nI q) = some (0, numbers', cells', rows', sizes', rooms', told', lines', kinds', acts', ns', nl', tk', st', af', k, pl) ∧ fX8_readsAll_0 f2 mem tp (nI n) f p mat mbg mtk mv 0 na ml = some (mem', k, pl, mat', mbg', mtk', mv', 1, na', ml')) := by
  have hn := X.hn
  have h600 : ∀ q : Nat, q ≤ 600 → ¬ (600 : Int32) < nI q := fun q hq z => by have := (nI_lt' (a := 600) (by omega) (by omega)).mp z; omega
  intro m
  induction m with
  | zero =>
    intro s e q f1 f2 tk st af mat mbg mtk mv numbers cells rows sizes rooms mem ns nl na ml kn l S L hm hq h1 h2 hT hD hN
    obtain ⟨f1, rfl, -⟩ := succ_of h1
    obtain ⟨f2, rfl, -⟩ := succ_of h2
    have b1 := hT.2.2.1
    have b2 := hT.2.2.2.1
    obtain ⟨z1, z2⟩ : tk = 5 ∧ mtk = 0 := by
      rcases hT.2.2.2.2 with z | z
      · exact ⟨z.1, z.2.1⟩
      · have := z.1; omega
    refine Or.inl ⟨numbers, cells, rows, sizes, rooms, mem, ns, nl, na, ml, tk, st, af, mat, mbg, mtk, mv, kn, q, l, by omega, ?_, ?_, hD⟩
    · rw [fX2_read_30, if_neg (h600 q (by omega)), if_neg i10, if_pos z1, fX2_read_60, zb_in (Or.inr rfl), zb_in (Or.inr rfl)]
      by_cases w : q = 0
      · rw [w, if_pos (show nI 0 ≤ 0 by decide), if_pos rfl]
      · rw [if_neg (fun z => w (by have := (nI_le' (b := 0) (by omega) (by omega)).mp z; omega)), if_neg w]
    · rw [fX8_readsAll_0, if_pos rfl, if_pos z2]
  | succ m ih =>
    intro s e q f1 f2 tk st af mat mbg mtk mv numbers cells rows sizes rooms mem ns nl na ml kn l S L hm hq h1 h2 hT hD hN
    obtain ⟨f1, rfl, hf1⟩ := succ_of h1
    obtain ⟨f2, rfl, hf2⟩ := succ_of h2
    have b1 := hT.2.2.1
    have b2 := hT.2.2.2.1
    by_cases z1 : tk = 5
    · have z2 : mtk = 0 := by
        rcases hT.2.2.2.2 with z | ⟨-, -, -, z | z | z | z⟩
        · exact z.2.1
        · rw [z1] at z; exact absurd z.1 (by decide)
        · rw [z1] at z; exact absurd z.1 (by decide)
        · rw [z1] at z; exact absurd z.1 (by decide)
        · rw [z1] at z; exact absurd z.1 (by decide)
      refine Or.inl ⟨numbers, cells, rows, sizes, rooms, mem, ns, nl, na, ml, tk, st, af, mat, mbg, mtk, mv, kn, q, l, by omega, ?_, ?_, hD⟩
      · rw [fX2_read_30, if_neg (h600 q (by omega)), if_neg i10, if_pos z1, fX2_read_60, zb_in (Or.inr rfl), zb_in (Or.inr rfl)]
        by_cases w : q = 0
        · rw [w, if_pos (show nI 0 ≤ 0 by decide), if_pos rfl]
        · rw [if_neg (fun z => w (by have := (nI_le' (b := 0) (by omega) (by omega)).mp z; omega)), if_neg w]
      · rw [fX8_readsAll_0, if_pos rfl, if_pos z2]
    · rcases X.lineStep hT z1 f p (show q ≤ 600 by omega) hD hN with ⟨s', e', tk', af', mat', mtk', mv', numbers', cells', rows', sizes', rooms', mem', ns', nl', na', ml', kn', l', S', L', y0, y1, y2, y3, y4, y5⟩ | ⟨numbers', cells', rows', sizes', rooms', lines', kinds', ns', nl', tk', st', af', k, pl, mem', mat', mbg', mtk', mv', na', ml', y1, y2⟩
      · have e1 : fX2_read_30 (f1 + 1) numbers cells rows sizes rooms told (nI q) (nI kn) acts ns nl b (nI n) tk st af f p 1 (nI q) = fX2_read_30 f1 numbers' cells' rows' sizes' rooms' told (nI (q + 1)) (nI kn') acts ns' nl' b (nI n) tk' (nI s') af' f p 1 (nI (q + 1)) := by
          rw [fX2_read_30, if_neg (h600 q (by omega)), if_neg i10, if_neg z1, y1, sob15, nI_s]
        rw [e1, y2]
        have b3 := y3.2.2.1
        have b4 := y3.2.2.2.1
        exact ih s' e' (q + 1) f1 f2 tk' (nI s') af' mat' (nI s') mtk' mv' numbers' cells' rows' sizes' rooms' mem' ns' nl' na' ml' kn' l' S' L' (by omega) (by omega) (by omega) (by omega) y3 y4 y5
      · obtain ⟨f1, rfl, -⟩ := succ_of (show m < f1 by omega)
        obtain ⟨f2, rfl, -⟩ := succ_of (show m < f2 by omega)
        have e1 : fX2_read_30 (f1 + 1 + 1) numbers cells rows sizes rooms told (nI q) (nI kn) acts ns nl b (nI n) tk st af f p 1 (nI q) = fX2_read_60 numbers' cells' rows' sizes' rooms' told lines' kinds' acts ns' nl' tk' st' af' k pl 0 := by
          rw [fX2_read_30, if_neg (h600 q (by omega)), if_neg i10, if_neg z1, y1, sob15, fX2_read_30]
          by_cases w : (600 : Int32) < nI q + 1
          · rw [if_pos w]
          · rw [if_neg w, if_pos rfl]
        rw [e1, y2 f2]
        refine Or.inr ⟨numbers', cells', rows', sizes', rooms', (if lines' ≤ 0 then 0 else 1), lines', kinds', acts, ns', nl', tk', st', af', k, pl, mem', mat', mbg', mtk', mv', na', ml', ?_, rfl⟩
        rw [fX2_read_60, zb_in (Or.inl rfl), zb_in (Or.inl rfl)]
        by_cases w : lines' ≤ 0
        · rw [if_pos w, if_pos w]
        · rw [if_neg w, if_neg w]
end
