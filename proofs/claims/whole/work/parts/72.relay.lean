/-! whirl, upset, put: rows made anew -/
theorem ext_getD {q r : List Nat} (h : q.length = r.length) (e : ∀ p, p < r.length → q.getD p 0 = r.getD p 0) : q = r := by
  apply List.ext_getElem h
  intro i h1 h2
  have := e i h2
  rw [List.getD_eq_getElem?_getD, List.getD_eq_getElem?_getD, List.getElem?_eq_getElem h1, List.getElem?_eq_getElem h2] at this
  exact this
theorem mem_getD {l : List Nat} {t : Nat} (h : t ∈ l) : ∃ p, p < l.length ∧ l.getD p 0 = t := by
  obtain ⟨p, hp, e⟩ := List.getElem_of_mem h
  exact ⟨p, hp, by rw [List.getD_eq_getElem?_getD, List.getElem?_eq_getElem hp]; exact e⟩
theorem R16_getD {l : List Nat} (h8 : l.length ≤ 8) (h : ∀ p, p < l.length → l.getD p 0 < 12) : R16 l := ⟨fun t ht => by obtain ⟨p, hp, rfl⟩ := mem_getD ht; exact h p hp, h8⟩
theorem getD_map {f : Nat → Nat} {l : List Nat} {p : Nat} (h : p < l.length) : (l.map f).getD p 0 = f (l.getD p 0) := by
  rw [List.getD_eq_getElem?_getD, List.getD_eq_getElem?_getD, List.getElem?_map, List.getElem?_eq_getElem h]
  rfl
theorem PNt.act2 {numbers cells rows sizes rooms mem past mem2 : Nat → Int32} {told lines kinds acted : Int32} {kn a : Nat} {l l2 : List Nat} {rm : Nat} {nb : Nat → Int} (hN : PNt numbers cells rows sizes rooms told lines kinds (nI a) mem acted past) (h : VW numbers cells rows sizes rooms mem kn a l rm nb) (hk : kinds = nI kn) (ha : a < 30) (hl2 : l2.length ≤ 8) (hlt : ∀ t ∈ l2, t < 4 * kn) (hm : ∀ k, k < 19 → k ≠ 2 → mem2 k = mem k) (h2 : mem2 2 = nI l2.length) (ht : ∀ p, p < l2.length → mem2 (19 + p) = nI (l2.getD p 0)) : PNt numbers cells (upd rows (a + 1) (pk l2)) (upd sizes (a + 1) (nI l2.length)) (upd rooms (a + 1) (nI rm)) 1 lines (nI kn) (nI (a + 1)) mem2 (nI (a + 1)) (kp mem past a 0) := by
  obtain ⟨kn', a', ln, h1, hk', ha', h4, ha30, hlines, hln1, hln2, hPl, hpast, hs⟩ := hN
  have k3 := h.kn3
  have k3' := hPl.1
  have e1 : kn' = kn := (nI_inj (by omega) (by omega)).mp (hk'.symm.trans hk)
  have e2 : a' = a := (nI_inj (by omega) (by omega)).mp ha'.symm
  subst e1
  subst e2
  obtain ⟨l', rm', hl8', hlt', hrm1', hrm8', hrow', hsize', hroom', m0', m1', m2', m3', mk', mt'⟩ := id hs
  exact PNt.act ha hlines hln1 hln2 hPl hpast hs (Snap.types k3 h.rm8.1 h.rm8.2 h.m0 h.m1 m3' mk' hl2 hlt hm h2 ht)
def onw (a : Nat) : Nat := if a = 0 then 1 else if a = 1 then 3 else if a = 3 then 2 else 0
def rot : Nat → Nat → Nat
  | 0, a => a
  | v + 1, a => rot v (onw a)
def wh (v t : Nat) : Nat := 4 * (t / 4) + rot v (t % 4)
theorem onw_lt (a : Nat) : onw a < 4 := by
  unfold onw
  repeat' split
  all_goals omega
theorem rot_lt : ∀ (v : Nat) {a : Nat}, a < 4 → rot v a < 4
  | 0, _, h => h
  | v + 1, a, _ => rot_lt v (onw_lt a)
theorem wh_lt {t kn v : Nat} (h : t < 4 * kn) : wh v t < 4 * kn := by
  have := rot_lt v (Nat.mod_lt t (show 0 < 4 by omega))
  unfold wh
  omega
theorem and3 : ∀ a, a < 4 → nI a &&& 3 = nI a := by decide +kernel
theorem onwC : ∀ a, a < 4 → stF 0 a = nI (onw a) := by decide +kernel
theorem join_or : ∀ t, t < 12 → ∀ a, a < 4 → (nI t &&& 12) ||| nI a = nI (4 * (t / 4) + a) := by decide +kernel
theorem mIn13 (x : Int32) : fX8_in x.toInt64 1 3 = if 1 ≤ x.toInt ∧ x.toInt ≤ 3 then 1 else 0 := by
  rw [in_spec]
  rfl
theorem out13 {β : Type} {x : Int32} (c : ¬ (1 ≤ x.toInt ∧ x.toInt ≤ 3)) {a b : Option β} : (if x < 1 then a else (if x ≤ 3 then b else a)) = a := by
  by_cases d : x < 1
  · rw [if_pos d]
  · rw [if_neg d, if_neg]
    rw [le3_iff]
    have : ¬ x.toInt < 1 := fun q => d ((lt_nI (n := 1) (by omega)).mpr q)
    omega
theorem whC_in {v0 v1 v3 v4 : Int32} {v : Nat} (hv : v < 1000) (k5 : Int32 → Int32 → Int32 → Int32 → Int32 → Option Int32) : ∀ (k n j a : Nat), j + k = v → k < n → a < 4 → fX3_whirled_22 k5 n v0 v1 (nI v) v3 v4 (nI a) (nI j) = fX3_whirled_44 k5 v0 v1 (nI v) v3 v4 (nI (rot k a)) := by
  intro k
  induction k with
  | zero =>
    intro n j a hj hn ha
    obtain ⟨n, rfl, -⟩ := succ_of hn
    rw [fX3_whirled_22, if_pos ((nI_le' (by omega) (by omega)).mpr (by omega)), rot]
  | succ k ih =>
    intro n j a hj hn ha
    obtain ⟨n, rfl, hn'⟩ := succ_of hn
    rw [fX3_whirled_22, if_neg (fun q => by have := (nI_le' (by omega) (by omega)).mp q; omega), and3 a ha, chkN ha (by omega), nI_clamp' (by omega), onwC a ha, nI_s, ih n (j + 1) (onw a) (by omega) (by omega) (onw_lt a), rot]
theorem whC_loop {l : List Nat} (hR : R16 l) {v : Nat} (hv : v < 4) : ∀ (k n i : Nat) (q : List Nat), i + k = l.length → k < n → q.length = l.length → (∀ p, p < l.length → q.getD p 0 = if p < i then wh v (l.getD p 0) else l.getD p 0) → fX3_whirled_5 n (pk l) (nI l.length) (nI v) (pk q) (nI i) = some (pk (l.map (wh v))) := by
  have l8 := hR.2
  intro k
  induction k with
  | zero =>
    intro n i q hi hn hq he
    obtain ⟨n, rfl, -⟩ := succ_of hn
    rw [fX3_whirled_5, if_pos ((nI_le' (by omega) (by omega)).mpr (by omega))]
    congr 2
    apply ext_getD (by rw [List.length_map]; exact hq)
    intro p hp
    rw [List.length_map] at hp
    rw [he p hp, if_pos (by omega), getD_map hp]
  | succ k ih =>
    intro n i q hi hn hq he
    obtain ⟨n, rfl, hn'⟩ := succ_of hn
    have g := getD_lt12 hR i
    have hw : ∀ p, wh v (l.getD p 0) < 12 := fun p => wh_lt (kn := 3) (getD_lt12 hR p)
    have hRq : R16 q := R16_getD (by omega) (fun p hp => by
      rw [he p (by omega)]
      split
      · exact hw p
      · exact getD_lt12 hR p)
    rw [fX3_whirled_5, if_neg (fun q => by have := (nI_le' (by omega) (by omega)).mp q; omega), angleAt_pk hR (by omega), lit_nI0, whC_in (by omega) _ v FU 0 _ (by omega) (FU_gt (by omega)) (Nat.mod_lt _ (by omega)), fX3_whirled_44, typeAt_pk hR (by omega), join_or _ g _ (rot_lt v (Nat.mod_lt _ (by omega))), nI_s]
    rw [show 4 * (l.getD i 0 / 4) + rot v (l.getD i 0 % 4) = wh v (l.getD i 0) from rfl, with_pk hRq (hw i) (by omega)]
    refine ih n (i + 1) _ (by omega) (by omega) (by rw [List.length_set]; exact hq) ?_
    intro p hp
    rw [getD_set (by omega)]
    by_cases e : p = i
    · rw [if_pos e, if_pos (by omega), e]
    · rw [if_neg e, he p hp]
      by_cases c : p < i
      · rw [if_pos c, if_pos (by omega)]
      · rw [if_neg c, if_neg (by omega)]
theorem whC {l : List Nat} (hR : R16 l) {v : Nat} (hv : v < 4) : fX3_whirled (pk l) (nI l.length) (nI v) = some (pk (l.map (wh v))) := by
  rw [fX3_whirled]
  exact whC_loop hR hv l.length FU 0 l (by omega) (FU_gt (by have := hR.2; omega)) rfl (fun p _ => by rw [if_neg (by omega)])
theorem whM_in {t v : Nat} (ht : t < 12) (hv : v < 1000) : ∀ (k n j a : Nat), j + k = v → k < n → a < 4 → fX8_whirled_6 n (nI t) (nI v) (nI a) (nI j) = some (nI (4 * (t / 4) + rot k a)) := by
  intro k
  induction k with
  | zero =>
    intro n j a hj hn ha
    obtain ⟨n, rfl, -⟩ := succ_of hn
    rw [fX8_whirled_6, if_pos ((nI_le' (by omega) (by omega)).mpr (by omega)), rot, lit_nI4, idiv_nI (by omega) (by omega), nI_mul, nI_add, Nat.mul_comm]
  | succ k ih =>
    intro n j a hj hn ha
    obtain ⟨n, rfl, hn'⟩ := succ_of hn
    have e := ih n (j + 1) (onw a) (by omega) (by omega) (onw_lt a)
    rw [fX8_whirled_6, if_neg (fun q => by have := (nI_le' (by omega) (by omega)).mp q; omega), rot, ← e]
    simp only [fX8_whirled_38, nI_s]
    have ha' : a = 0 ∨ a = 1 ∨ a = 2 ∨ a = 3 := by omega
    rcases ha' with rfl | rfl | rfl | rfl
    · rw [if_pos (show nI 0 = 0 from rfl), show nI (onw 0) = 1 from rfl]
    · rw [if_neg (show ¬ nI 1 = 0 by decide), if_pos (show nI 1 = 1 from rfl), show nI (onw 1) = 3 from rfl]
    · rw [if_neg (show ¬ nI 2 = 0 by decide), if_neg (show ¬ nI 2 = 1 by decide), if_neg (show ¬ nI 2 = 3 by decide), show nI (onw 2) = 0 from rfl]
    · rw [if_neg (show ¬ nI 3 = 0 by decide), if_neg (show ¬ nI 3 = 1 by decide), if_pos (show nI 3 = 3 from rfl), show nI (onw 3) = 2 from rfl]
theorem whM {t v : Nat} (ht : t < 12) (hv : v < 4) : fX8_whirled (nI t) (nI v) = some (nI (wh v t)) := by
  rw [fX8_whirled, lit_nI4, irem_nI (by omega) (by omega) (by omega)]
  exact whM_in ht (by omega) v FU 0 _ (by omega) (FU_gt (by omega)) (Nat.mod_lt _ (by omega))
theorem whM_loop {l : List Nat} (hR : R16 l) {v : Nat} (hv : v < 4) {acted : Int32} {past : Nat → Int32} : ∀ (k n i : Nat) (mem : Nat → Int32), i + k = l.length → k < n → mem 2 = nI l.length → (∀ p, p < l.length → mem (19 + p) = nI (if p < i then wh v (l.getD p 0) else l.getD p 0)) → ∃ mem2, fX8_whirl_47 n mem acted past (nI v) (nI i) = some (nI l.length, mem2, acted, past) ∧ (∀ k, k < 19 → mem2 k = mem k) ∧ ∀ p, p < l.length → mem2 (19 + p) = nI (wh v (l.getD p 0)) := by
  have l8 := hR.2
  intro k
  induction k with
  | zero =>
    intro n i mem hi hn m2 he
    obtain ⟨n, rfl, -⟩ := succ_of hn
    refine ⟨mem, ?_, fun _ _ => rfl, fun p hp => ?_⟩
    · rw [fX8_whirl_47, m2, if_pos ((nI_le' (by omega) (by omega)).mpr (by omega)), fX8_whirl_85, m2]
    · rw [he p hp, if_pos (by omega)]
  | succ k ih =>
    intro n i mem hi hn m2 he
    obtain ⟨n, rfl, hn'⟩ := succ_of hn
    have g := getD_lt12 hR i
    have c1 : i < 8 := by omega
    have hi' := he i (by omega)
    rw [if_neg (by omega)] at hi'
    rw [fX8_whirl_47, m2, if_neg (fun q => by have := (nI_le' (by omega) (by omega)).mp q; omega), chk19 c1, clamp19 c1, hi', whM g hv, Option.bind_some, chk19 c1, nI_s]
    obtain ⟨mem2, h1, h2, h3⟩ := ih n (i + 1) (upd mem (19 + i) (nI (wh v (l.getD i 0)))) (by omega) (by omega) (by rw [upd_ne _ _ (by omega)]; exact m2) (fun p hp => by
      by_cases e : p = i
      · rw [e, upd_same, if_pos (by omega)]
      · rw [upd_ne _ _ (by omega), he p hp]
        by_cases c : p < i
        · rw [if_pos c, if_pos (by omega)]
        · rw [if_neg c, if_neg (by omega)])
    exact ⟨mem2, h1, fun k hk => by rw [h2 k hk, upd_ne _ _ (by omega)], h3⟩
