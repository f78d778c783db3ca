/-! words, names and numbers of a text -/
def WD (c : Nat → Nat) (s e w : Nat) : Prop := e - s = strN.getD w 0 ∧ ∀ i, i < strN.getD w 0 → nI (c (s + i)) = (strB.getD w []).getD i 0
theorem strN_le : ∀ w, w < 13 → strN.getD w 0 ≤ 5 := by decide
theorem i10 : ¬ (1 : Int32) = 0 := by decide
theorem w32z (fu : Nat) (tp : Nat → Int32) (bg : Int32) (w : Nat) (i : Int32) : fX8_isWord_32 (fu + 1) tp bg w 0 i = some 0 := by
  rw [fX8_isWord_32]
  by_cases q : nI (strN.getD w 0) ≤ i
  · rw [if_pos q, zb_in (Or.inl rfl)]
  · rw [if_neg q, if_pos rfl, zb_in (Or.inl rfl)]
theorem isWord28 (tp : Nat → Int32) (bg : Int32) (w : Nat) : fX8_isWord_28 tp bg w = some 0 := by
  obtain ⟨m, hm⟩ := FU_10
  rw [fX8_isWord_28, fX8_isWord_29, show fX8_isWord_32 FU = fX8_isWord_32 (m + 9 + 1) by rw [hm], w32z]
section
variable {c : Nat → Nat} {n : Nat} {b tp : Nat → Int32}
theorem TX.sp28 (X : TX c n b tp) {s w : Nat} (hw : w < 13) (hs : s + strN.getD w 0 ≤ n) : ∀ (k i f1 f2 : Nat), i + k = strN.getD w 0 → k < f1 → k < f2 → ∃ r : Int32, (r = 0 ∨ r = 1) ∧ fX2_spells_28 f1 b (nI n) (nI s) w (nI i) = some r ∧ fX8_isWord_32 f2 tp (nI s) w 1 (nI i) = some r ∧ (r = 1 ↔ ∀ j, i ≤ j → j < strN.getD w 0 → nI (c (s + j)) = (strB.getD w []).getD j 0) := by
  have hn := X.hn
  have h5 := strN_le w hw
  intro k
  induction k with
  | zero =>
    intro i f1 f2 hi h1 h2
    obtain ⟨f1, rfl, -⟩ := succ_of h1
    obtain ⟨f2, rfl, -⟩ := succ_of h2
    refine ⟨1, Or.inr rfl, ?_, ?_, fun _ j h1 h2 => by omega, fun _ => rfl⟩
    · rw [fX2_spells_28, if_le_y (by omega) (by omega)]
    · rw [fX8_isWord_32, if_le_y (by omega) (by omega), zb_in (Or.inr rfl)]
  | succ k ih =>
    intro i f1 f2 hi h1 h2
    obtain ⟨f1, rfl, hf1⟩ := succ_of h1
    obtain ⟨f2, rfl, hf2⟩ := succ_of h2
    rw [fX2_spells_28, if_le_n (by omega) (by omega), nI_add, X.at' (by omega), sb3, chkN (by omega) (by omega), nI_clamp' (by omega), fX8_isWord_32, if_le_n (by omega) (by omega), if_neg i10, nI_add, chkN (by omega) (by omega), chkN (by omega) (by omega), nI_clamp' (by omega), nI_clamp' (by omega), X.ht (s + i) (by omega)]
    by_cases q : nI (c (s + i)) = (strB.getD w []).getD i 0
    · obtain ⟨r, r0, r1, r2, r3⟩ := ih (i + 1) f1 f2 (by omega) (by omega) (by omega)
      refine ⟨r, r0, by rw [if_pos q, nI_s, r1], by rw [if_pos q, fX8_isWord_68, nI_s, r2], fun z j h1 h2 => ?_, fun z => r3.mpr (fun j h1 h2 => z j (by omega) h2)⟩
      by_cases y : j = i
      · rw [y]; exact q
      · exact r3.mp z j (by omega) h2
    · obtain ⟨f2, rfl, -⟩ := succ_of (show k < f2 by omega)
      refine ⟨0, Or.inl rfl, by rw [if_neg q], by rw [if_neg q, fX8_isWord_68, w32z], fun z => absurd z (by decide), fun z => absurd (z i (by omega) (by omega)) q⟩
theorem TX.word (X : TX c n b tp) {s e w : Nat} (hw : w < 13) {tk st af mat mbg mtk mv : Int32} (h : TK n b s e tk st af mat mbg mtk mv) : ∃ r : Int32, (r = 0 ∨ r = 1) ∧ fX2_spells b (nI n) tk st af w = some r ∧ fX8_isWord tp mat mbg mtk w = some r ∧ (r = 1 ↔ tk = 1 ∧ WD c s e w) := by
  have hn := X.hn
  have h5 := strN_le w hw
  obtain ⟨rfl, rfl, h1, h2, h3⟩ := h
  have no : ∀ t m : Int32, ¬ t = 1 → ¬ m = 1 → ∃ r : Int32, (r = 0 ∨ r = 1) ∧ fX2_spells b (nI n) t (nI s) af w = some r ∧ fX8_isWord tp mat (nI s) m w = some r ∧ (r = 1 ↔ t = 1 ∧ WD c s e w) := fun t m q1 q2 =>
    ⟨0, Or.inl rfl, by rw [fX2_spells, if_neg q1], by rw [fX8_isWord, if_neg q2, isWord28], fun z => absurd z (by decide), fun z => absurd z.1 q1⟩
  rcases h3 with ⟨rfl, rfl, -⟩ | ⟨h3, rfl, rfl, ⟨rfl, rfl⟩ | ⟨rfl, rfl, -⟩ | ⟨rfl, rfl⟩ | ⟨rfl, rfl⟩⟩
  · exact no 5 0 (by decide) (by decide)
  · rw [fX2_spells, if_pos rfl, nI_sub h1, fX8_isWord, if_pos rfl, nI_sub h1]
    by_cases q : e - s = strN.getD w 0
    · rw [if_eq_y q, if_eq_y q, fX8_isWord_29]
      obtain ⟨r, r0, r1, r2, r3⟩ := X.sp28 hw (s := s) (by omega) (strN.getD w 0) 0 FU FU (by omega) (FU_gt (by omega)) (FU_gt (by omega))
      exact ⟨r, r0, r1, r2, fun z => ⟨rfl, q, fun i hi => r3.mp z i (by omega) hi⟩, fun z => r3.mpr (fun j _ hj => z.2.2 j hj)⟩
    · rw [if_eq_n q (by omega) (by omega), if_eq_n q (by omega) (by omega), isWord28]
      exact ⟨0, Or.inl rfl, rfl, rfl, fun z => absurd z (by decide), fun z => absurd z.2.1 q⟩
  · exact no 2 2 (by decide) (by decide)
  · exact no 3 3 (by decide) (by decide)
  · exact no 0 4 (by decide) (by decide)
/-- the names told so far -/
def NM (c : Nat → Nat) (n kn : Nat) (S L : Nat → Nat) (ns nl na ml : Nat → Int32) : Prop :=
  kn ≤ 3 ∧ ∀ j, j < kn → ns j = nI (S j) ∧ na j = nI (S j) ∧ nl j = nI (L j) ∧ ml j = nI (L j) ∧ S j + L j ≤ n ∧ L j ≤ 6 ∧ ¬ WD c (S j) (S j + L j) 0 ∧ ¬ WD c (S j) (S j + L j) 2 ∧ ¬ WD c (S j) (S j + L j) 3
theorem NM.k3 {kn : Nat} {S L : Nat → Nat} {ns nl na ml : Nat → Int32} (h : NM c n kn S L ns nl na ml) : kn ≤ 3 := h.1
theorem NM.hs {kn : Nat} {S L : Nat → Nat} {ns nl na ml : Nat → Int32} (h : NM c n kn S L ns nl na ml) : ∀ j, j < kn → ns j = nI (S j) ∧ na j = nI (S j) ∧ nl j = nI (L j) ∧ ml j = nI (L j) ∧ S j + L j ≤ n ∧ L j ≤ 6 ∧ ¬ WD c (S j) (S j + L j) 0 ∧ ¬ WD c (S j) (S j + L j) 2 ∧ ¬ WD c (S j) (S j + L j) 3 := h.2
def MT (c : Nat → Nat) (s e s2 l : Nat) : Prop := e - s = l ∧ ∀ i, i < l → c (s + i) = c (s2 + i)
theorem MT.wd {c : Nat → Nat} {s e s2 l w : Nat} (h : MT c s e s2 l) (hw : WD c s e w) : WD c s2 (s2 + l) w := by
  refine ⟨by rw [Nat.add_sub_cancel_left, ← h.1]; exact hw.1, fun i hi => ?_⟩
  rw [← h.2 i (by rw [← h.1, hw.1]; exact hi)]
  exact hw.2 i hi
theorem k38z (k2 : (Nat → Int32) → (Nat → Int32) → Int32 → Int32 → (Nat → Int32) → (Nat → Int32) → Int32 → Option Int32) (fu : Nat) (mem tp : Nat → Int32) (at' bg : Int32) (na ml : Nat → Int32) {j : Nat} (hj : j < 3) (i : Int32) : fX8_kindHere_38 k2 (fu + 1) mem tp at' bg na ml (nI j) 0 i = k2 mem tp at' bg na ml (nI (j + 1)) := by
  rw [fX8_kindHere_38, chkN hj (by omega)]
  have e : fX8_kindHere_91 k2 mem tp at' bg na ml (nI j) 0 = k2 mem tp at' bg na ml (nI (j + 1)) := by rw [fX8_kindHere_91, if_pos rfl, nI_s]
  by_cases q : ml (nI j).toNatClampNeg ≤ i
  · rw [if_pos q, e]
  · rw [if_neg q, if_pos rfl, e]
theorem TX.rep (X : TX c n b tp) {s s2 l j : Nat} (hs : s + l ≤ n) (hs2 : s2 + l ≤ n) (hj : j < 3) {na ml : Nat → Int32} (hna : na j = nI s2) (hml : ml j = nI l) (mem : Nat → Int32) (mat : Int32) (k2 : (Nat → Int32) → (Nat → Int32) → Int32 → Int32 → (Nat → Int32) → (Nat → Int32) → Int32 → Option Int32) : ∀ (k i f1 f2 : Nat), i + k = l → k < f1 → k < f2 → ∃ r : Int32, (r = 0 ∨ r = 1) ∧ fX2_repeats_17 f1 b (nI n) (nI s) (nI s2) (nI l) (nI i) = some r ∧ fX8_kindHere_38 k2 f2 mem tp mat (nI s) na ml (nI j) 1 (nI i) = (if r = 0 then k2 mem tp mat (nI s) na ml (nI (j + 1)) else some (nI j)) ∧ (r = 1 ↔ ∀ q, i ≤ q → q < l → c (s + q) = c (s2 + q)) := by
  have hn := X.hn
  intro k
  induction k with
  | zero =>
    intro i f1 f2 hi h1 h2
    obtain ⟨f1, rfl, -⟩ := succ_of h1
    obtain ⟨f2, rfl, -⟩ := succ_of h2
    refine ⟨1, Or.inr rfl, ?_, ?_, fun _ j h1 h2 => by omega, fun _ => rfl⟩
    · rw [fX2_repeats_17, if_le_y (by omega) (by omega)]
    · rw [fX8_kindHere_38, chkN hj (by omega), nI_clamp' (by omega), hml, if_le_y (by omega) (by omega), fX8_kindHere_91]
      rfl
  | succ k ih =>
    intro i f1 f2 hi h1 h2
    obtain ⟨f1, rfl, hf1⟩ := succ_of h1
    obtain ⟨f2, rfl, hf2⟩ := succ_of h2
    have b1 := X.hc (s + i) (by omega)
    have b2 := X.hc (s2 + i) (by omega)
    rw [fX2_repeats_17, if_le_n (by omega) (by omega), nI_add, nI_add, X.at' (by omega), sb3, X.at' (by omega), sb3, fX8_kindHere_38, chkN hj (by omega), nI_clamp' (by omega), hml, if_le_n (by omega) (by omega), if_neg i10, chkN hj (by omega), hna, nI_add, nI_add, chkN (by omega) (by omega), chkN (by omega) (by omega), nI_clamp' (by omega), nI_clamp' (by omega), X.ht (s + i) (by omega), X.ht (s2 + i) (by omega)]
    by_cases q : c (s + i) = c (s2 + i)
    · obtain ⟨r, r0, r1, r2, r3⟩ := ih (i + 1) f1 f2 (by omega) (by omega) (by omega)
      refine ⟨r, r0, by rw [if_eq_y q, nI_s, r1], by rw [if_eq_y q.symm, fX8_kindHere_84, nI_s, r2], fun z y h1 h2 => ?_, fun z => r3.mpr (fun y h1 h2 => z y (by omega) h2)⟩
      by_cases u : y = i
      · rw [u]; exact q
      · exact r3.mp z y (by omega) h2
    · obtain ⟨f2, rfl, -⟩ := succ_of (show k < f2 by omega)
      refine ⟨0, Or.inl rfl, by rw [if_eq_n q (by omega) (by omega)], by rw [if_eq_n (fun z => q z.symm) (by omega) (by omega), fX8_kindHere_84, k38z _ _ _ _ _ _ _ _ hj, if_pos rfl], fun z => absurd z (by decide), fun z => absurd (z i (by omega) (by omega)) q⟩
theorem TX.told (X : TX c n b tp) {kn : Nat} {S L : Nat → Nat} {ns nl na ml mem : Nat → Int32} (hN : NM c n kn S L ns nl na ml) (hm : mem 1 = nI kn) {s e : Nat} (hse : s ≤ e) (hen : e ≤ n) : ∀ (m j f1 f2 : Nat), j + m = kn → m < f1 → m < f2 → ∃ r : Int32, fX2_toldKind_2 f1 (nI kn) ns nl b (nI n) (nI s) (nI e) (nI j) = some r ∧ fX8_kindHere_2 f2 mem tp (nI e) (nI s) na ml (nI j) = some r ∧ ((r = -1 ∧ ∀ q, j ≤ q → q < kn → ¬ MT c s e (S q) (L q)) ∨ ∃ q, q < kn ∧ r = nI q ∧ MT c s e (S q) (L q)) := by
  have hn := X.hn
  have h3 := hN.k3
  intro m
  induction m with
  | zero =>
    intro j f1 f2 hj h1 h2
    obtain ⟨f1, rfl, -⟩ := succ_of h1
    obtain ⟨f2, rfl, -⟩ := succ_of h2
    refine ⟨-1, ?_, ?_, Or.inl ⟨rfl, fun q h1 h2 => by omega⟩⟩
    · rw [fX2_toldKind_2, if_le_y (by omega) (by omega)]
    · rw [fX8_kindHere_2, hm, if_le_y (by omega) (by omega)]
  | succ m ih =>
    intro j f1 f2 hj h1 h2
    obtain ⟨f1, rfl, hf1⟩ := succ_of h1
    obtain ⟨f2, rfl, hf2⟩ := succ_of h2
    obtain ⟨a1, a2, a3, a4, a5, a6, -⟩ := hN.hs j (by omega)
    obtain ⟨r, r1, r2, r3⟩ := ih (j + 1) f1 f2 (by omega) (by omega) (by omega)
    rw [fX2_toldKind_2, if_le_n (by omega) (by omega), lit_nI3, if_le_n (by omega) (by omega), chkN (by omega) (by omega), chkN (by omega) (by omega), nI_clamp' (by omega), a1, a3, fX2_repeats, nI_sub hse, fX8_kindHere_2, hm, if_le_n (by omega) (by omega), chkN (by omega) (by omega), nI_clamp' (by omega), a4, nI_sub hse]
    have nxt : ¬ MT c s e (S j) (L j) → ((r = -1 ∧ ∀ q, j ≤ q → q < kn → ¬ MT c s e (S q) (L q)) ∨ ∃ q, q < kn ∧ r = nI q ∧ MT c s e (S q) (L q)) := fun z => by
      rcases r3 with ⟨u, v⟩ | u
      · refine Or.inl ⟨u, fun q h1 h2 => ?_⟩
        by_cases y : q = j
        · rw [y]; exact z
        · exact v q (by omega) h2
      · exact Or.inr u
    by_cases q : e - s = L j
    · rw [if_eq_y q, if_eq_y q.symm, fX8_kindHere_35]
      obtain ⟨r', p0, p1, p2, p3⟩ := X.rep (s := s) (s2 := S j) (l := L j) (j := j) (by omega) (by omega) (by omega) a2 a4 mem (nI e) (fX8_kindHere_2 f2) (L j) 0 FU FU (by omega) (FU_gt (by omega)) (FU_gt (by omega))
      rw [show (nI 0 : Int32) = 0 from rfl] at p1 p2
      rw [p1, sb3, p2]
      rcases p0 with rfl | rfl
      · rw [if_pos rfl, if_pos rfl, nI_s]
        exact ⟨r, r1, r2, nxt (fun z => absurd (p3.mpr (fun y _ hy => z.2 y hy)) (by decide))⟩
      · rw [if_neg (by decide), if_neg (by decide)]
        exact ⟨nI j, rfl, rfl, Or.inr ⟨j, by omega, rfl, q, fun i hi => p3.mp rfl i (by omega) hi⟩⟩
    · have z : fX8_kindHere_35 (fX8_kindHere_2 f2) mem tp (nI e) (nI s) na ml (nI j) 0 = fX8_kindHere_2 f2 mem tp (nI e) (nI s) na ml (nI (j + 1)) := by
        obtain ⟨w, hw⟩ := FU_10
        rw [fX8_kindHere_35, show fX8_kindHere_38 (fX8_kindHere_2 f2) FU = fX8_kindHere_38 (fX8_kindHere_2 f2) (w + 9 + 1) by rw [hw], k38z _ _ _ _ _ _ _ _ (by omega)]
      rw [if_eq_n q (by omega) (by omega), if_eq_n (fun y => q y.symm) (by omega) (by omega), sb3, if_pos rfl, nI_s, z]
      exact ⟨r, r1, r2, nxt (fun y => q y.1)⟩
/-! the model once it has met a fault -/
theorem passes_bad (tp : Nat → Int32) (n fk fp mat mbg mtk mv z : Int32) : fX8_passes tp n fk fp mat mbg mtk mv 1 z = some (fk, fp, mat, mbg, mtk, mv, 1) := by
  have e : fX8_passes_9 tp n fk fp mat mbg mtk mv 1 = some (fk, fp, mat, mbg, mtk, mv, 1) := by rw [fX8_passes_9, if_neg (by decide)]
  unfold fX8_passes
  by_cases q : z = 0
  · rw [if_pos q, fX8_faults, if_neg (by decide)]
    exact e
  · rw [if_neg q, e]
theorem reads_bad (tp : Nat → Int32) (n fk fp mat mbg mtk mv lo hi : Int32) : fX8_reads tp n fk fp mat mbg mtk mv 1 lo hi = some (lo, fk, fp, mat, mbg, mtk, mv, 1) := by
  rw [fX8_reads, if_neg (by decide)]
theorem named_bad (tp : Nat → Int32) (n fk fp mat mbg mtk mv : Int32) (w : Nat) (lo hi : Int32) : fX8_readsNamed tp n fk fp mat mbg mtk mv 1 w lo hi = some (lo, fk, fp, mat, mbg, mtk, mv, 1) := by
  rw [fX8_readsNamed, if_neg (by decide), fX8_readsNamed_16, fX8_readsNamed_21, passes_bad, show ∀ (K : Int32 → Int32 → Int32 → Int32 → Int32 → Int32 → Int32 → Option (Int32 × Int32 × Int32 × Int32 × Int32 × Int32 × Int32 × Int32)) (a b c d e f g : Int32), ob7 (some (a, b, c, d, e, f, g)) K = K a b c d e f g from fun _ _ _ _ _ _ _ _ => rfl, reads_bad]
  rfl
theorem passes_no (tp : Nat → Int32) (n fk fp mat mbg mtk mv : Int32) : fX8_passes tp n fk fp mat mbg mtk mv 0 0 = some (1, mbg, mat, mbg, mtk, mv, 1) := by
  rw [fX8_passes, if_pos rfl, fX8_faults, if_pos rfl]
  show fX8_passes_9 tp n 1 mbg mat mbg mtk mv 1 = _
  rw [fX8_passes_9, if_neg (by decide)]
theorem passes_ok {tp : Nat → Int32} {n fk fp mat mbg mtk mv a1 a2 a3 a4 z : Int32} (hz : ¬ z = 0) (h : fX8_next tp n mat mbg mtk mv = some (a1, a2, a3, a4)) : fX8_passes tp n fk fp mat mbg mtk mv 0 z = some (fk, fp, a1, a2, a3, a4, 0) := by
  rw [fX8_passes, if_neg hz, fX8_passes_9, if_pos rfl, h]
  rfl
/-- both go on past a token that is no end -/
theorem TX.go (X : TX c n b tp) {s e : Nat} {tk st af mat mbg mtk mv : Int32} (h : TK n b s e tk st af mat mbg mtk mv) (hk : ¬ tk = 5) : ∃ (s' e' : Nat) (tk' af' mat' mtk' mv' : Int32), s < s' ∧ fX2_next b (nI n) tk st af = some (tk', nI s', af') ∧ fX8_next tp (nI n) mat mbg mtk mv = some (mat', nI s', mtk', mv') ∧ TK n b s' e' tk' (nI s') af' mat' (nI s') mtk' mv' := by
  obtain ⟨rfl, rfl, h1, h2, h3⟩ := h
  rcases h3 with ⟨rfl, -⟩ | ⟨h3, rfl, rfl, h4⟩
  · exact absurd rfl hk
  · obtain ⟨s', e', tk', af', mat', mtk', mv', y0, y1, y2, y3⟩ := X.next h2 tk (nI s) (nI s) mtk mv
    exact ⟨s', e', tk', af', mat', mtk', mv', by omega, y1, y2, y3⟩
theorem TX.pass (X : TX c n b tp) {s e w : Nat} (hw : w < 13) {tk st af mat mbg mtk mv : Int32} (h : TK n b s e tk st af mat mbg mtk mv) (f p : Int32) : (∃ (s' e' : Nat) (tk' af' mat' mtk' mv' : Int32), s < s' ∧ fX2_pass b (nI n) tk st af f p w = some (1, tk', nI s', af', f, p) ∧ fX8_isWord tp mat mbg mtk w = some 1 ∧ fX8_passes tp (nI n) f p mat mbg mtk mv 0 1 = some (f, p, mat', nI s', mtk', mv', 0) ∧ TK n b s' e' tk' (nI s') af' mat' (nI s') mtk' mv') ∨ (fX2_pass b (nI n) tk st af f p w = some (0, tk, st, af, 1, nI s) ∧ fX8_isWord tp mat mbg mtk w = some 0 ∧ fX8_passes tp (nI n) f p mat mbg mtk mv 0 0 = some (1, nI s, mat, mbg, mtk, mv, 1)) := by
  obtain ⟨r, r0, r1, r2, r3⟩ := X.word hw h
  rcases r0 with rfl | rfl
  · refine Or.inr ⟨?_, r2, ?_⟩
    · rw [fX2_pass, r1, sb3, if_pos rfl, fX2_refuse, h.1]
      rfl
    · rw [passes_no, h.2.1]
  · have ht := (r3.mp rfl).1
    obtain ⟨s', e', tk', af', mat', mtk', mv', y0, y1, y2, y3⟩ := X.go h (by rw [ht]; decide)
    refine Or.inl ⟨s', e', tk', af', mat', mtk', mv', y0, ?_, r2, passes_ok (by decide) y2, y3⟩
    rw [fX2_pass, r1, sb3, if_neg (by decide), y1]
    rfl
theorem TX.num (X : TX c n b tp) {s e lo hi : Nat} (hhi : hi ≤ 999) (hlo : lo ≤ hi) {tk st af mat mbg mtk mv : Int32} (h : TK n b s e tk st af mat mbg mtk mv) (f p : Int32) : (∃ (v s' e' : Nat) (tk' af' mat' mtk' mv' : Int32), lo ≤ v ∧ v ≤ hi ∧ s < s' ∧ fX2_isNumberIn b (nI n) tk st af f p (nI lo) (nI hi) = some (1, f, p) ∧ fX2_tokenValue b (nI n) st af = some (nI v) ∧ fX2_next b (nI n) tk st af = some (tk', nI s', af') ∧ fX8_reads tp (nI n) f p mat mbg mtk mv 0 (nI lo) (nI hi) = some (nI v, f, p, mat', nI s', mtk', mv', 0) ∧ TK n b s' e' tk' (nI s') af' mat' (nI s') mtk' mv') ∨ (∃ (k x : Int32), fX2_isNumberIn b (nI n) tk st af f p (nI lo) (nI hi) = some (0, k, nI s) ∧ fX8_reads tp (nI n) f p mat mbg mtk mv 0 (nI lo) (nI hi) = some (x, k, nI s, mat, mbg, mtk, mv, 1)) := by
  have hgo := X.go h
  obtain ⟨rfl, rfl, h1, h2, h3⟩ := h
  have no : ∀ t m : Int32, ¬ t = 2 → ¬ m = 2 → fX2_isNumberIn b (nI n) t (nI s) af f p (nI lo) (nI hi) = some (0, 1, nI s) ∧ fX8_reads tp (nI n) f p mat (nI s) m mv 0 (nI lo) (nI hi) = some (mv, 1, nI s, mat, nI s, m, mv, 1) := fun t m q1 q2 => by
    refine ⟨by rw [fX2_isNumberIn, if_neg q1]; rfl, ?_⟩
    rw [fX8_reads, if_pos rfl, if_neg q2, fX8_faults, if_pos rfl]
    show fX8_reads_47 tp (nI n) 1 (nI s) mat (nI s) m mv 1 mv = _
    rw [fX8_reads_47, passes_bad]
    rfl
  rcases h3 with ⟨rfl, rfl, -⟩ | ⟨h3, rfl, rfl, ⟨rfl, rfl⟩ | ⟨rfl, rfl, V, rfl, h4⟩ | ⟨rfl, rfl⟩ | ⟨rfl, rfl⟩⟩
  · exact Or.inr ⟨1, mv, no 5 0 (by decide) (by decide)⟩
  · exact Or.inr ⟨1, mv, no 1 1 (by decide) (by decide)⟩
  · by_cases q : lo ≤ V ∧ V ≤ hi
    · obtain ⟨s', e', tk', af', mat', mtk', mv', y0, y1, y2, y3⟩ := hgo (by decide)
      rw [show min V 1000 = V by omega] at h4
      refine Or.inl ⟨V, s', e', tk', af', mat', mtk', mv', q.1, q.2, y0, ?_, h4, y1, ?_, y3⟩
      · rw [fX2_isNumberIn, if_pos rfl, h4, sb3, if_lt_n q.1 (by omega), if_le_y q.2 (by omega)]
      · rw [fX8_reads, if_pos rfl, if_pos rfl, in_nI3 (by omega) (by omega) (by omega), if_pos (show lo ≤ min V 99999 ∧ min V 99999 ≤ hi by omega), if_neg i10, fX8_reads_47, passes_ok (by decide) y2, show min V 99999 = V by omega]
        rfl
    · refine Or.inr ⟨2, nI (min V 99999), ?_, ?_⟩
      · rw [fX2_isNumberIn, if_pos rfl, h4, sb3]
        by_cases u : min V 1000 < lo
        · rw [if_lt_y u (by omega)]; rfl
        · rw [if_lt_n (by omega) (by omega), if_le_n (by omega) (by omega)]; rfl
      · rw [fX8_reads, if_pos rfl, if_pos rfl, in_nI3 (by omega) (by omega) (by omega), if_neg (show ¬ (lo ≤ min V 99999 ∧ min V 99999 ≤ hi) by omega), if_pos rfl, fX8_faults, if_pos rfl]
        show fX8_reads_47 tp (nI n) 2 (nI s) (nI e) (nI s) 2 (nI (min V 99999)) 1 (nI (min V 99999)) = _
        rw [fX8_reads_47, passes_bad]
        rfl
  · exact Or.inr ⟨1, mv, no 3 3 (by decide) (by decide)⟩
  · exact Or.inr ⟨1, mv, no 0 4 (by decide) (by decide)⟩
end
