/-! what stands of a plate that is told, in one row -/
def VW (numbers cells rows sizes rooms mem : Nat → Int32) (kn a : Nat) (l : List Nat) (rm : Nat) (nb : Nat → Int) : Prop :=
  a ≤ 30 ∧ kn ≤ 3 ∧ R16 l ∧ (∀ t ∈ l, t < 4 * kn) ∧ (1 ≤ rm ∧ rm ≤ 8) ∧ rows a = pk l ∧ sizes a = nI l.length ∧ rooms a = nI rm ∧ mem 0 = nI rm ∧ mem 1 = nI kn ∧ mem 2 = nI l.length ∧ fX8_is mem = some 1 ∧ (∀ p, p < l.length → mem (19 + p) = nI (l.getD p 0)) ∧ MK mem nb kn ∧ NB nb kn ∧ (∀ q, q < 5 * kn → numbers q = i32 (nb q)) ∧ ∀ t, t < 4 * kn → ∀ c, c < 9 → cells (9 * t + c) = i32 (ceQ nb (9 * t + c))
theorem PNt.view {numbers cells rows sizes rooms mem past : Nat → Int32} {told lines kinds acts acted : Int32} (h : PNt numbers cells rows sizes rooms told lines kinds acts mem acted past) : ∃ (kn a : Nat) (l : List Nat) (rm : Nat) (nb : Nat → Int), told = 1 ∧ kinds = nI kn ∧ acts = nI a ∧ acted = nI a ∧ VW numbers cells rows sizes rooms mem kn a l rm nb := by
  obtain ⟨kn, a, ln, h1, h2, h3, h4, ha, hlines, hln1, hln2, ⟨hk, nb, hNB, hnb, hce⟩, hpast, hs⟩ := h
  obtain ⟨l, rm, hl8, hlt, hrm1, hrm8, hrow, hsize, hroom, m0, m1, m2, m3, mk, mt⟩ := hs
  refine ⟨kn, a, l, rm, nb, h1, h2, h3, h4, ha, hk, ⟨fun t ht => by have := hlt t ht; omega, hl8⟩, hlt, ⟨hrm1, hrm8⟩, hrow, hsize, hroom, m0, m1, m2, mIs (m3.trans hlines) hln1 hln2, mt, ⟨hk, fun q hq => (mk q hq).trans (hnb q hq)⟩, hNB, hnb, ?_⟩
  intro t ht c hc
  rw [ceQ_at nb hc]
  exact hce t ht c hc
section
variable {numbers cells rows sizes rooms mem : Nat → Int32} {kn a : Nat} {l : List Nat} {rm : Nat} {nb : Nat → Int}
theorem VW.a30 (h : VW numbers cells rows sizes rooms mem kn a l rm nb) : a ≤ 30 := h.1
theorem VW.kn3 (h : VW numbers cells rows sizes rooms mem kn a l rm nb) : kn ≤ 3 := h.2.1
theorem VW.R (h : VW numbers cells rows sizes rooms mem kn a l rm nb) : R16 l := h.2.2.1
theorem VW.lt (h : VW numbers cells rows sizes rooms mem kn a l rm nb) : ∀ t ∈ l, t < 4 * kn := h.2.2.2.1
theorem VW.len (h : VW numbers cells rows sizes rooms mem kn a l rm nb) : l.length ≤ 8 := h.R.2
theorem VW.len' (h : VW numbers cells rows sizes rooms mem kn a l rm nb) : l.length < 1000 := by have := h.len; omega
theorem VW.kn' (h : VW numbers cells rows sizes rooms mem kn a l rm nb) : kn < 1000 := by have := h.kn3; omega
theorem VW.rm8 (h : VW numbers cells rows sizes rooms mem kn a l rm nb) : 1 ≤ rm ∧ rm ≤ 8 := h.2.2.2.2.1
theorem VW.row (h : VW numbers cells rows sizes rooms mem kn a l rm nb) : fX1_row rows (nI a) = some (pk l) := (cRow h.a30).trans (congrArg some h.2.2.2.2.2.1)
theorem VW.plies (h : VW numbers cells rows sizes rooms mem kn a l rm nb) : fX1_plies sizes (nI a) = some (nI l.length) := (cPlies h.a30).trans (congrArg some h.2.2.2.2.2.2.1)
theorem VW.room (h : VW numbers cells rows sizes rooms mem kn a l rm nb) : fX1_roomNow rooms (nI a) = some (nI rm) := (cRoom h.a30).trans (congrArg some h.2.2.2.2.2.2.2.1)
theorem VW.m0 (h : VW numbers cells rows sizes rooms mem kn a l rm nb) : mem 0 = nI rm := h.2.2.2.2.2.2.2.2.1
theorem VW.m1 (h : VW numbers cells rows sizes rooms mem kn a l rm nb) : mem 1 = nI kn := h.2.2.2.2.2.2.2.2.2.1
theorem VW.m2 (h : VW numbers cells rows sizes rooms mem kn a l rm nb) : mem 2 = nI l.length := h.2.2.2.2.2.2.2.2.2.2.1
theorem VW.is (h : VW numbers cells rows sizes rooms mem kn a l rm nb) : fX8_is mem = some 1 := h.2.2.2.2.2.2.2.2.2.2.2.1
theorem VW.mt (h : VW numbers cells rows sizes rooms mem kn a l rm nb) : ∀ p, p < l.length → mem (19 + p) = nI (l.getD p 0) := h.2.2.2.2.2.2.2.2.2.2.2.2.1
theorem VW.mk (h : VW numbers cells rows sizes rooms mem kn a l rm nb) : MK mem nb kn := h.2.2.2.2.2.2.2.2.2.2.2.2.2.1
theorem VW.nbs (h : VW numbers cells rows sizes rooms mem kn a l rm nb) : NB nb kn := h.2.2.2.2.2.2.2.2.2.2.2.2.2.2.1
theorem VW.num (h : VW numbers cells rows sizes rooms mem kn a l rm nb) : ∀ q, q < 5 * kn → numbers q = i32 (nb q) := h.2.2.2.2.2.2.2.2.2.2.2.2.2.2.2.1
theorem VW.ce (h : VW numbers cells rows sizes rooms mem kn a l rm nb) : ∀ t, t < 4 * kn → ∀ c, c < 9 → cells (9 * t + c) = i32 (ceQ nb (9 * t + c)) := h.2.2.2.2.2.2.2.2.2.2.2.2.2.2.2.2
theorem VW.cply (h : VW numbers cells rows sizes rooms mem kn a l rm nb) (x : Int32) : fX7_isPly sizes 1 (nI a) x = some (if 0 ≤ x.toInt ∧ x.toInt < l.length then 1 else 0) := cIsPly h.a30 h.2.2.2.2.2.2.1 h.len' x
theorem VW.mply (h : VW numbers cells rows sizes rooms mem kn a l rm nb) (x : Int32) : fX8_isPly mem x = some (if 0 ≤ x.toInt ∧ x.toInt < l.length then 1 else 0) := mIsPly h.m2 h.len' x
theorem VW.ckind (h : VW numbers cells rows sizes rooms mem kn a l rm nb) (x : Int32) : fX7_isKind 1 (nI kn) x = if 0 ≤ x.toInt ∧ x.toInt < kn then 1 else 0 := cIsKind h.kn' x
theorem VW.mkind (h : VW numbers cells rows sizes rooms mem kn a l rm nb) (x : Int32) : fX8_isKind mem x = some (if 0 ≤ x.toInt ∧ x.toInt < kn then 1 else 0) := mIsKind h.m1 h.kn' x
theorem VW.type (h : VW numbers cells rows sizes rooms mem kn a l rm nb) {i : Nat} (hi : i < 8) : fX1_typeAt rows (nI a) (nI i) = some (nI (l.getD i 0)) := cTypeAt h.a30 h.R h.2.2.2.2.2.1 hi
theorem VW.lays (h : VW numbers cells rows sizes rooms mem kn a l rm nb) (row : Nat → Int32) (wide lost : Int32) : ∃ row', fX8_laysPlate mem row wide lost = some (row', nI l.length, 0) ∧ RW row' l := mLays h.len h.m2 h.mt row wide lost
theorem VW.totOf (h : VW numbers cells rows sizes rooms mem kn a l rm nb) {l2 : List Nat} (h2 : R16 l2) (h3 : ∀ t ∈ l2, t < 4 * kn) {w c g : Nat} (hw : w ≤ 2) (hc : c < 9) (hg : g < 256) : fX1_totalOf cells (pk l2) (nI l2.length) (nI g) (nI w) (nI c) = some (i64 (totG (ceQ nb) l2.length w c g 0 l2)) :=
  cTotalOf h2 hw hc hg (fun t ht => h.ce t (h3 t ht) c hc) (fun t ht => by rw [ceQ_at nb hc]; exact qe_bd h.nbs (h3 t ht) c)
theorem VW.total (h : VW numbers cells rows sizes rooms mem kn a l rm nb) {w c g : Nat} (hw : w ≤ 2) (hc : c < 9) (hg : g < 256) : fX1_total cells rows sizes (nI a) (nI g) (nI w) (nI c) = some (i64 (totG (ceQ nb) l.length w c g 0 l)) := by
  rw [fX1_total, h.row, Option.bind_some, h.plies, Option.bind_some, h.totOf h.R h.lt hw hc hg, Option.bind_some]
theorem VW.sum (h : VW numbers cells rows sizes rooms mem kn a l rm nb) {l2 : List Nat} {row : Nat → Int32} (h2 : R16 l2) (h3 : ∀ t ∈ l2, t < 4 * kn) (hr : RW row l2) {w i j g : Nat} (hw : w ≤ 2) (hi : i < 3) (hj : j < 3) (hg : g < 256) : fX8_sum mem row (nI l2.length) (nI g) (nI w) (nI i) (nI j) = some (i64 (totG (ceQ nb) l2.length w (3 * i + j) g 0 l2)) := mSum h.mk h.nbs h2.2 h3 hr hw hi hj hg
end
theorem mIn2 (x : Int32) : fX8_in x.toInt64 0 2 = if 0 ≤ x.toInt ∧ x.toInt ≤ 2 then 1 else 0 := by
  rw [in_spec]
  rfl
theorem lt2_iff (x : Int32) : (2 : Int32) < x ↔ 2 < x.toInt := Int32.lt_iff_toInt_lt
theorem cAxis (x : Int32) : fX7_isAxis x = if 0 ≤ x.toInt ∧ x.toInt ≤ 2 then 1 else 0 := by
  rw [fX7_isAxis]
  by_cases c : x.toInt < 0
  · rw [if_pos ((lt0_iff x).mpr c), if_neg (by omega)]
  · rw [if_neg (fun q => c ((lt0_iff x).mp q))]
    by_cases d : 2 < x.toInt
    · rw [if_pos ((lt2_iff x).mpr d), if_neg (by omega)]
    · rw [if_neg (fun q => d ((lt2_iff x).mp q)), if_pos (by omega)]
theorem ax_lo {x : Int32} (c : 0 ≤ x.toInt ∧ x.toInt ≤ 2) : (x < 0) = False := eq_false (fun q => by have := (lt0_iff x).mp q; omega)
theorem ax_hi {x : Int32} (c : 0 ≤ x.toInt ∧ x.toInt ≤ 2) : ((2 : Int32) < x) = False := eq_false (fun q => by have := (lt2_iff x).mp q; omega)
theorem ax_out {β : Type} {x : Int32} (c : ¬ (0 ≤ x.toInt ∧ x.toInt ≤ 2)) {a b : Option β} : (if x < 0 then a else (if 2 < x then a else b)) = a := by
  by_cases d : x < 0
  · rw [if_pos d]
  · rw [if_neg d, if_pos]
    rw [lt2_iff]
    have : ¬ x.toInt < 0 := fun q => d ((lt0_iff x).mpr q)
    omega
