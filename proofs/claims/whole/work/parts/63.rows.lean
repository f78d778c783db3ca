/-! The class's rows: what each of its functions answers on a row of types. -/
def R16 (l : List Nat) : Prop := (∀ t ∈ l, t < 12) ∧ l.length ≤ 8
theorem R16.lt {l : List Nat} (h : R16 l) : ∀ t ∈ l, t < 16 := fun t ht => by have := h.1 t ht; omega
theorem getD_lt12 {l : List Nat} (h : R16 l) (k : Nat) : l.getD k 0 < 12 := by
  rw [List.getD_eq_getElem?_getD]
  cases hk : l[k]? with
  | none => simp
  | some x => exact h.1 x (List.mem_of_getElem? hk)
theorem dropD {l : List Nat} {i : Nat} (h : i < l.length) : l.drop i = l.getD i 0 :: l.drop (i + 1) := by
  rw [List.drop_eq_getElem_cons h, List.getD_eq_getElem?_getD, List.getElem?_eq_getElem h]
  rfl
theorem typeAt_pk {l : List Nat} (h : R16 l) {k : Nat} (hk : k < 8) : fX3_typeAt (pk l) (nI k) = nI (l.getD k 0) := by
  unfold fX3_typeAt
  rw [lit_nI4, nI_mul]
  exact pk_at h.lt hk
theorem angleAt_pk {l : List Nat} (h : R16 l) {k : Nat} (hk : k < 8) : fX3_angleAt (pk l) (nI k) = nI (l.getD k 0 % 4) := by
  unfold fX3_angleAt
  rw [lit_nI4, nI_mul]
  exact pk_ang h.lt hk
theorem with_pk {l : List Nat} (h : R16 l) {k t : Nat} (ht : t < 12) (hk : k < l.length) : fX3_with (pk l) (nI k) (nI t) = pk (l.set k t) := by
  unfold fX3_with
  rw [lit_nI4, nI_mul]
  exact pk_with h.lt (by omega) hk h.2
theorem or_pk {l : List Nat} (h : R16 l) {t : Nat} (ht : t < 12) (hl : l.length < 8) : pk l ||| (nI t <<< ((4 * nI l.length) &&& 31)) = pk (l ++ [t]) := by
  rw [lit_nI4, nI_mul]
  exact pk_push h.lt (by omega) hl
theorem R16.push {l : List Nat} (h : R16 l) {t : Nat} (ht : t < 12) (hl : l.length < 8) : R16 (l ++ [t]) := by
  refine ⟨fun x hx => ?_, by simp; omega⟩
  rcases List.mem_append.mp hx with q | q
  · exact h.1 x q
  · rw [List.mem_singleton.mp q]; exact ht
theorem R16.set {l : List Nat} (h : R16 l) {k t : Nat} (ht : t < 12) : R16 (l.set k t) := by
  refine ⟨fun x hx => ?_, by rw [List.length_set]; exact h.2⟩
  rcases List.mem_or_eq_of_mem_set hx with q | q
  · exact h.1 x q
  · rw [q]; exact ht
theorem howMany_loop {l : List Nat} (h : R16 l) {t : Nat} (ht : t < 16) : ∀ (k n i c : Nat), i + k = l.length → k < n → fX3_howMany_5 n (pk l) (nI l.length) (nI t) (nI c) (nI i) = some (nI (c + (l.drop i).count t)) := by
  have h8 := h.2
  intro k
  induction k with
  | zero =>
    intro n i c hi hn
    obtain ⟨n, rfl, -⟩ := succ_of hn
    rw [fX3_howMany_5_s, if_pos ((nI_le' (by omega) (by omega)).mpr (by omega)), List.drop_eq_nil_of_le (by omega)]
    rfl
  | succ k ih =>
    intro n i c hi hn
    obtain ⟨n, rfl, hn⟩ := succ_of hn
    have hil : i < l.length := by omega
    rw [fX3_howMany_5_s, if_neg (fun q => absurd ((nI_le' (by omega) (by omega)).mp q) (by omega)), typeAt_pk h (by omega), dropD hil, List.count_cons]
    unfold fX3_howMany_24
    have hg := getD_lt12 h i
    by_cases e : l.getD i 0 = t
    · rw [if_pos (by rw [e]), nI_1, nI_1, ih n (i + 1) (c + 1) (by omega) (by omega), if_pos (beq_iff_eq.mpr e)]
      congr 2
      omega
    · rw [if_neg (fun q => e ((nI_inj (by omega) (by omega)).mp q)), nI_1, ih n (i + 1) c (by omega) (by omega), if_neg (fun q => e (beq_iff_eq.mp q))]
      rfl
theorem howMany_pk {l : List Nat} (h : R16 l) {t : Nat} (ht : t < 16) : fX3_howMany (pk l) (nI l.length) (nI t) = some (nI (l.count t)) := by
  have h8 := h.2
  unfold fX3_howMany
  rw [lit_nI0, howMany_loop h ht l.length FU 0 0 (by omega) (FU_gt (by omega))]
  simp
theorem unlikePlaces_loop {l l2 : List Nat} (h : R16 l) (h2 : R16 l2) : ∀ (k n i c : Nat), i + k = l.length → k < n → l2.length = l.length → fX3_unlikePlaces_5 n (pk l) (pk l2) (nI l.length) (nI c) (nI i) = some (nI (c + (((l.zip l2).drop i).filter (fun q => q.1 != q.2)).length)) := by
  have h8 := h.2
  intro k
  induction k with
  | zero =>
    intro n i c hi hn hl
    obtain ⟨n, rfl, -⟩ := succ_of hn
    rw [fX3_unlikePlaces_5_s, if_pos ((nI_le' (by omega) (by omega)).mpr (by omega)), List.drop_eq_nil_of_le (by rw [List.length_zip]; omega)]
    rfl
  | succ k ih =>
    intro n i c hi hn hl
    obtain ⟨n, rfl, hn⟩ := succ_of hn
    have hil : i < l.length := by omega
    have hz : i < (l.zip l2).length := by rw [List.length_zip]; omega
    have hzi : (l.zip l2).drop i = (l.getD i 0, l2.getD i 0) :: (l.zip l2).drop (i + 1) := by
      rw [List.drop_eq_getElem_cons hz, List.getElem_zip, List.getD_eq_getElem?_getD, List.getD_eq_getElem?_getD, List.getElem?_eq_getElem hil, List.getElem?_eq_getElem (by omega)]
      rfl
    rw [fX3_unlikePlaces_5_s, if_neg (fun q => absurd ((nI_le' (by omega) (by omega)).mp q) (by omega)), typeAt_pk h (by omega), typeAt_pk h2 (by omega), hzi, List.filter_cons]
    unfold fX3_unlikePlaces_29
    have hg := getD_lt12 h i
    have hg2 := getD_lt12 h2 i
    by_cases e : l.getD i 0 = l2.getD i 0
    · rw [if_pos (by rw [e]), nI_1, ih n (i + 1) c (by omega) (by omega) hl, if_neg (fun q => absurd e (bne_iff_ne.mp q))]
    · rw [if_neg (fun q => e ((nI_inj (by omega) (by omega)).mp q)), nI_1, nI_1, ih n (i + 1) (c + 1) (by omega) (by omega) hl, if_pos (bne_iff_ne.mpr e), List.length_cons]
      congr 2
      omega
def unl (l l2 : List Nat) : Nat := ((l.zip l2).filter (fun q => q.1 != q.2)).length
theorem unlikePlaces_pk {l l2 : List Nat} (h : R16 l) (h2 : R16 l2) (hl : l2.length = l.length) : fX3_unlikePlaces (pk l) (pk l2) (nI l.length) = some (nI (unl l l2)) := by
  have h8 := h.2
  unfold fX3_unlikePlaces
  rw [lit_nI0, unlikePlaces_loop h h2 l.length FU 0 0 (by omega) (FU_gt (by omega)) hl]
  simp [unl]
/-- plies with the angle of the one below, from place i on -/
def likes (l : List Nat) : Nat → Nat → Nat
  | 0, _ => 0
  | k + 1, i => (if l.getD i 0 % 4 = l.getD (i - 1) 0 % 4 then 1 else 0) + likes l k (i + 1)
def likesN (l : List Nat) : Nat := likes l (l.length - 1) 1
theorem likes_loop {l : List Nat} (h : R16 l) : ∀ (k n i c : Nat), i + k = l.length → 1 ≤ i → k < n → fX3_likeNeighbours_4 n (pk l) (nI l.length) (nI c) (nI i) = some (nI (c + likes l k i)) := by
  have h8 := h.2
  intro k
  induction k with
  | zero =>
    intro n i c hi h1 hn
    obtain ⟨n, rfl, -⟩ := succ_of hn
    rw [fX3_likeNeighbours_4_s, if_pos ((nI_le' (by omega) (by omega)).mpr (by omega))]
    rfl
  | succ k ih =>
    intro n i c hi h1 hn
    obtain ⟨n, rfl, hn⟩ := succ_of hn
    rw [fX3_likeNeighbours_4_s, if_neg (fun q => absurd ((nI_le' (by omega) (by omega)).mp q) (by omega)), lit_nI1, nI_sub h1, angleAt_pk h (by omega), angleAt_pk h (by omega)]
    unfold fX3_likeNeighbours_27 likes
    rw [lit_nI1]
    by_cases e : l.getD i 0 % 4 = l.getD (i - 1) 0 % 4
    · rw [if_pos (by rw [e]), if_pos e, nI_add, nI_add, ih n (i + 1) (c + 1) (by omega) (by omega) (by omega)]
      congr 2
      omega
    · rw [if_neg (fun q => e ((nI_inj (by omega) (by omega)).mp q)), if_neg e, nI_add, ih n (i + 1) c (by omega) (by omega) (by omega), Nat.zero_add]
theorem likes_pk {l : List Nat} (h : R16 l) : fX3_likeNeighbours (pk l) (nI l.length) = some (nI (likesN l)) := by
  have h8 := h.2
  unfold fX3_likeNeighbours likesN
  cases hl : l.length with
  | zero =>
    obtain ⟨m, hm⟩ : ∃ m, FU = m + 1 := ⟨99999, rfl⟩
    rw [hm, fX3_likeNeighbours_4_s, lit_nI1, if_pos ((nI_le' (a := 0) (b := 1) (by omega) (by omega)).mpr (by omega))]
    rfl
  | succ m =>
    have := likes_loop h m FU 1 0 (by omega) (by omega) (FU_gt (by omega))
    rw [hl] at this
    rw [lit_nI0, lit_nI1, this]
    simp
