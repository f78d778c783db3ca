/-! a text: its bytes, its marks, its tokens -/
def TX (c : Nat → Nat) (n : Nat) (b tp : Nat → Int32) : Prop :=
  n ≤ 600 ∧ (∀ k, k < n → c k < 256) ∧ (∀ k, k < n → tp k = nI (c k)) ∧ ∀ k, k < n → b k = (nI (c k)).toInt8.toInt32
theorem TX.hn {c : Nat → Nat} {n : Nat} {b tp : Nat → Int32} (X : TX c n b tp) : n ≤ 600 := X.1
theorem TX.hc {c : Nat → Nat} {n : Nat} {b tp : Nat → Int32} (X : TX c n b tp) : ∀ k, k < n → c k < 256 := X.2.1
theorem TX.ht {c : Nat → Nat} {n : Nat} {b tp : Nat → Int32} (X : TX c n b tp) : ∀ k, k < n → tp k = nI (c k) := X.2.2.1
theorem TX.hb {c : Nat → Nat} {n : Nat} {b tp : Nat → Int32} (X : TX c n b tp) : ∀ k, k < n → b k = (nI (c k)).toInt8.toInt32 := X.2.2.2
theorem TX.of {b tp : Nat → Int32} {s m : Int32} (h : PT b s tp m) : ∃ c n, s = nI n ∧ m = nI n ∧ TX c n b tp := by
  obtain ⟨n, h1, h2, h3, h4⟩ := h
  have this : ∀ k, ∃ x : Nat, k < n → x < 256 ∧ tp k = nI x ∧ b k = (nI x).toInt8.toInt32 := fun k => by
    by_cases q : k < n
    · obtain ⟨x, p⟩ := h4 k q
      exact ⟨x, fun _ => p⟩
    · exact ⟨0, fun w => absurd w q⟩
  obtain ⟨c, hc⟩ := Classical.axiomOfChoice this
  exact ⟨c, n, h2, h3, h1, fun k q => (hc k q).1, fun k q => (hc k q).2.1, fun k q => (hc k q).2.2⟩
def ccN (c : Nat) : Nat := if 97 ≤ c ∧ c ≤ 122 then 1 else if 48 ≤ c ∧ c ≤ 57 then 2 else if c = 32 ∨ c = 10 then 4 else if c = 59 then 3 else 0
theorem ccN_byte : ∀ c, c < 256 → ((nI c).toInt8.toInt32 &&& 255 = nI c) ∧ ((if (nI c).toInt8.toInt32 < 97 then fX5_classAt_42 ((nI c).toInt8.toInt32) else (if 122 < (nI c).toInt8.toInt32 then fX5_classAt_42 ((nI c).toInt8.toInt32) else some (1))) = some (nI (ccN c))) := by decide +kernel
def kl (c : Nat → Nat) (n k : Nat) : Nat := if k < n then ccN (c k) else 5
theorem kl_le (c : Nat → Nat) (n k : Nat) : kl c n k ≤ 5 := by unfold kl ccN; split <;> (try split) <;> (try split) <;> (try split) <;> (try split) <;> omega
theorem nI_nn {k : Nat} (h : k < 2147483648) : ¬ nI k < 0 := fun q => by have := (nI_lt' (b := 0) h (by omega)).mp q; omega
section
variable {c : Nat → Nat} {n : Nat} {b tp : Nat → Int32}
theorem TX.cls (X : TX c n b tp) {k : Nat} (hk : k < 2147483648) : fX5_classAt b (nI n) (nI k) = some (nI (kl c n k)) := by
  have hn := X.hn
  unfold fX5_classAt kl
  rw [if_neg (nI_nn hk)]
  by_cases q : k < n
  · rw [if_le_n q (by omega), show (600 : Int32) = nI 600 from rfl, if_lt_y (by omega) (by omega), chkN (by omega) (by omega), nI_clamp' hk, X.hb k q, (ccN_byte (c k) (X.hc k q)).2, if_pos q]
  · rw [if_le_y (by omega) hk, if_neg q]
    rfl
theorem TX.at' (X : TX c n b tp) {k : Nat} (q : k < n) : fX5_at b (nI n) (nI k) = some (nI (c k)) := by
  have hn := X.hn
  unfold fX5_at
  rw [if_neg (nI_nn (by omega)), if_le_n q (by omega), show (600 : Int32) = nI 600 from rfl, if_lt_y (by omega) (by omega), chkN (by omega) (by omega), nI_clamp' (by omega), X.hb k q, (ccN_byte (c k) (X.hc k q)).1]
theorem nI_toL {k : Nat} (h : k < 2147483648) : (nI k).toInt64.toInt = k := by rw [Int32.toInt_toInt64, nI_i32, i32_int ⟨by omega, by omega⟩]
theorem nI_toI {k : Nat} (h : k < 2147483648) : (nI k).toInt = k := by rw [nI_i32, i32_int ⟨by omega, by omega⟩]
theorem in_nI3 {x lo hi : Nat} (hx : x < 2147483648) (hlo : lo < 2147483648) (hhi : hi < 2147483648) : fX8_in (nI x).toInt64 (nI lo).toInt64 (nI hi).toInt64 = if lo ≤ x ∧ x ≤ hi then 1 else 0 := by
  rw [in_spec, nI_toL hlo, nI_toL hhi, nI_toI hx]
  by_cases q : lo ≤ x ∧ x ≤ hi
  · rw [if_pos q, if_pos (by omega)]
  · rw [if_neg q, if_neg (by omega)]
theorem TX.isAt (X : TX c n b tp) {k lo hi : Nat} (hk : k < 2147483648) (hlo : lo < 2147483648) (hhi : hi < 2147483648) : fX8_isAt tp (nI n) (nI k) (nI lo) (nI hi) = some (if k < n ∧ lo ≤ c k ∧ c k ≤ hi then 1 else 0) := by
  have hn := X.hn
  unfold fX8_isAt
  by_cases q : k < n
  · have := X.hc k q
    rw [if_le_n q (by omega), chkN (by omega) (by omega), nI_clamp' hk, X.ht k q, in_nI3 (by omega) hlo hhi]
    by_cases w : lo ≤ c k ∧ c k ≤ hi
    · rw [if_pos w, if_neg (by decide), if_pos ⟨q, w⟩]
    · rw [if_neg w, if_pos rfl, if_neg (fun z => w z.2)]
  · rw [if_le_y (by omega) hk, if_neg (fun z => q z.1)]
theorem run_end (P : Nat → Prop) (n : Nat) : ∀ k i, i + k = n → ∃ e, i ≤ e ∧ e ≤ n ∧ (∀ j, i ≤ j → j < e → P j) ∧ (e = n ∨ ¬ P e) := by
  intro k
  induction k with
  | zero => intro i hi; exact ⟨i, by omega, by omega, fun j _ _ => by omega, Or.inl (by omega)⟩
  | succ k ih =>
    intro i hi
    rcases Classical.em (P i) with q | q
    · obtain ⟨e, h1, h2, h3, h4⟩ := ih (i + 1) (by omega)
      exact ⟨e, by omega, h2, fun j hj he => by
        by_cases w : j = i
        · rw [w]; exact q
        · exact h3 j (by omega) he, h4⟩
    · exact ⟨i, by omega, by omega, fun j _ _ => by omega, Or.inr q⟩
theorem TX.c97 (X : TX c n b tp) {t e : Nat} (ht : t < 5) (he : e ≤ n) (hne : ¬ kl c n e = t) (st : Int32) : ∀ (k fu i q : Nat), i + k = e → k < fu → q ≤ i → (∀ j, i ≤ j → j < e → kl c n j = t) → fX2_next_97 fu b (nI n) (nI t) st (nI i) 1 (nI q) = some (nI t, st, nI e) := by
  have hn := X.hn
  intro k
  induction k with
  | zero =>
    intro fu i q hi hfu hq hr
    obtain ⟨fu, rfl, -⟩ := succ_of hfu
    have : i = e := by omega
    subst this
    rw [fX2_next_97]
    by_cases w : 600 ≤ q
    · rw [show (600 : Int32) = nI 600 from rfl, if_le_y w (by omega)]
    · rw [show (600 : Int32) = nI 600 from rfl, if_le_n (by omega) (by omega), if_neg (by decide), X.cls (by omega)]
      have := kl_le c n i
      rw [show ∀ (f : Int32 → Option (Int32 × Int32 × Int32)) (x : Int32), (some x).bind f = f x from fun _ _ => rfl, if_eq_n hne (by omega) (by omega)]
  | succ k ih =>
    intro fu i q hi hfu hq hr
    obtain ⟨fu, rfl, hfu'⟩ := succ_of hfu
    rw [fX2_next_97, show (600 : Int32) = nI 600 from rfl, if_le_n (by omega) (by omega), if_neg (by decide), X.cls (by omega), hr i (by omega) (by omega)]
    rw [show ∀ (f : Int32 → Option (Int32 × Int32 × Int32)) (x : Int32), (some x).bind f = f x from fun _ _ => rfl, if_eq_y rfl, nI_s, nI_s]
    exact ih fu (i + 1) (q + 1) (by omega) (by omega) (by omega) (fun j h1 h2 => hr j (by omega) h2)
theorem TX.m83 (X : TX c n b tp) {e : Nat} (he : e ≤ n) (hne : e = n ∨ ¬ (97 ≤ c e ∧ c e ≤ 122)) (bg tk v : Int32) : ∀ (k fu i : Nat), i + k = e → k < fu → (∀ j, i ≤ j → j < e → 97 ≤ c j ∧ c j ≤ 122) → fX8_next_83 fu tp (nI n) (nI i) bg tk v = some (nI e, bg, tk, v) := by
  have hn := X.hn
  intro k
  induction k with
  | zero =>
    intro fu i hi hfu hr
    obtain ⟨fu, rfl, -⟩ := succ_of hfu
    have : i = e := by omega
    subst this
    rw [fX8_next_83, show (97 : Int32) = nI 97 from rfl, show (122 : Int32) = nI 122 from rfl, X.isAt (by omega) (by omega) (by omega), if_neg (by omega)]
    rfl
  | succ k ih =>
    intro fu i hi hfu hr
    obtain ⟨fu, rfl, hfu'⟩ := succ_of hfu
    have := hr i (by omega) (by omega)
    rw [fX8_next_83, show (97 : Int32) = nI 97 from rfl, show (122 : Int32) = nI 122 from rfl, X.isAt (by omega) (by omega) (by omega), if_pos (by omega), show ∀ (f : Int32 → Option (Int32 × Int32 × Int32 × Int32)) (x : Int32), (some x).bind f = f x from fun _ _ => rfl, if_neg (by decide), nI_s]
    exact ih fu (i + 1) (by omega) (by omega) (fun j h1 h2 => hr j (by omega) h2)
def VV (c : Nat → Nat) : Nat → Nat → Nat → Nat
  | _, 0, V => V
  | i, k + 1, V => VV c (i + 1) k (10 * V + (c i - 48))
theorem val_step {V d M m : Nat} (hd : 48 ≤ d) (hm : m = min V M) : (10 * nI m + nI d) - 48 = nI (10 * m + (d - 48)) := by
  rw [show (10 : Int32) = nI 10 from rfl, nI_mul, nI_add, show (48 : Int32) = nI 48 from rfl, nI_sub (by omega)]
  congr 1
  omega
theorem TX.m123 (X : TX c n b tp) {e : Nat} (he : e ≤ n) (hne : e = n ∨ ¬ (48 ≤ c e ∧ c e ≤ 57)) (bg tk : Int32) : ∀ (k fu i V : Nat), i + k = e → k < fu → (∀ j, i ≤ j → j < e → 48 ≤ c j ∧ c j ≤ 57) → fX8_next_123 fu tp (nI n) (nI i) bg tk (nI (min V 99999)) = some (nI e, bg, tk, nI (min (VV c i k V) 99999)) := by
  have hn := X.hn
  intro k
  induction k with
  | zero =>
    intro fu i V hi hfu hr
    obtain ⟨fu, rfl, -⟩ := succ_of hfu
    have : i = e := by omega
    subst this
    rw [fX8_next_123, show (48 : Int32) = nI 48 from rfl, show (57 : Int32) = nI 57 from rfl, X.isAt (by omega) (by omega) (by omega), if_neg (by omega)]
    rfl
  | succ k ih =>
    intro fu i V hi hfu hr
    obtain ⟨fu, rfl, hfu'⟩ := succ_of hfu
    have h1 := hr i (by omega) (by omega)
    rw [fX8_next_123, show fX8_isAt tp (nI n) (nI i) 48 57 = some 1 by rw [show (48 : Int32) = nI 48 from rfl, show (57 : Int32) = nI 57 from rfl, X.isAt (by omega) (by omega) (by omega), if_pos (by omega)], show ∀ (f : Int32 → Option (Int32 × Int32 × Int32 × Int32)) (x : Int32), (some x).bind f = f x from fun _ _ => rfl, if_neg (by decide), chkN (by omega) (by omega), nI_clamp' (by omega), X.ht i (by omega), val_step h1.1 rfl, show (99999 : Int32) = nI 99999 from rfl, imin_nI (by omega) (by omega), nI_s, show min 99999 (10 * min V 99999 + (c i - 48)) = min (10 * V + (c i - 48)) 99999 by omega]
    exact ih fu (i + 1) (10 * V + (c i - 48)) (by omega) (by omega) (fun j h1 h2 => hr j (by omega) h2)
theorem TX.c7 (X : TX c n b tp) {e : Nat} (he : e ≤ n) : ∀ (k fu i V : Nat), i + k = e → k < fu → (∀ j, i ≤ j → j < e → 48 ≤ c j ∧ c j ≤ 57) → fX2_tokenValue_7 fu b (nI n) (nI e) (nI (min V 1000)) (nI i) = some (nI (min (VV c i k V) 1000)) := by
  have hn := X.hn
  intro k
  induction k with
  | zero =>
    intro fu i V hi hfu hr
    obtain ⟨fu, rfl, -⟩ := succ_of hfu
    rw [fX2_tokenValue_7, if_le_y (by omega) (by omega)]
    rfl
  | succ k ih =>
    intro fu i V hi hfu hr
    obtain ⟨fu, rfl, hfu'⟩ := succ_of hfu
    have h1 := hr i (by omega) (by omega)
    rw [fX2_tokenValue_7, if_le_n (by omega) (by omega), X.at' (by omega), show ∀ (f : Int32 → Option (Int32)) (x : Int32), (some x).bind f = f x from fun _ _ => rfl, val_step h1.1 rfl, show (1000 : Int32) = nI 1000 from rfl, imin_nI (by omega) (by omega), nI_s, show min (10 * min V 1000 + (c i - 48)) 1000 = min (10 * V + (c i - 48)) 1000 by omega]
    exact ih fu (i + 1) (10 * V + (c i - 48)) (by omega) (by omega) (fun j h1 h2 => hr j (by omega) h2)
/-- the class's token and the model's -/
def TK (n : Nat) (b : Nat → Int32) (s e : Nat) (tk st af mat mbg mtk mv : Int32) : Prop :=
  st = nI s ∧ mbg = nI s ∧ s ≤ e ∧ e ≤ n ∧ ((tk = 5 ∧ mtk = 0 ∧ s = n) ∨ (s < e ∧ af = nI e ∧ mat = nI e ∧ ((tk = 1 ∧ mtk = 1) ∨ (tk = 2 ∧ mtk = 2 ∧ ∃ V : Nat, mv = nI (min V 99999) ∧ fX2_tokenValue b (nI n) (nI s) (nI e) = some (nI (min V 1000))) ∨ (tk = 3 ∧ mtk = 3) ∨ (tk = 0 ∧ mtk = 4))))
theorem sb3 {α : Type} (x : Int32) (f : Int32 → Option α) : (some x).bind f = f x := rfl
theorem c97z (b : Nat → Int32) (n t st af : Int32) : fX2_next_97 FU b n t st af 0 0 = some (t, st, af) := by
  obtain ⟨m, hm⟩ := FU_10
  rw [hm]
  rw [fX2_next_97, if_neg (by decide), if_pos rfl]
theorem ccN_1 {x : Nat} : ccN x = 1 ↔ 97 ≤ x ∧ x ≤ 122 := by unfold ccN; split <;> (try split) <;> (try split) <;> (try split) <;> omega
theorem ccN_2 {x : Nat} : ccN x = 2 ↔ 48 ≤ x ∧ x ≤ 57 := by unfold ccN; split <;> (try split) <;> (try split) <;> (try split) <;> omega
theorem ccN_3 {x : Nat} : ccN x = 3 ↔ x = 59 := by unfold ccN; split <;> (try split) <;> (try split) <;> (try split) <;> omega
theorem ccN_4 {x : Nat} : ccN x = 4 ↔ x = 32 ∨ x = 10 := by unfold ccN; split <;> (try split) <;> (try split) <;> (try split) <;> omega
theorem ccN_0 {x : Nat} (h1 : ¬ ccN x = 1) (h2 : ¬ ccN x = 2) (h3 : ¬ ccN x = 3) (h4 : ¬ ccN x = 4) : ccN x = 0 := by
  rw [ccN_1] at h1; rw [ccN_2] at h2; rw [ccN_3] at h3; rw [ccN_4] at h4
  unfold ccN
  rw [if_neg h1, if_neg h2, if_neg h4, if_neg h3]
theorem kl_in {k : Nat} (h : k < n) : kl c n k = ccN (c k) := if_pos h
theorem kl_n : kl c n n = 5 := if_neg (by omega)
theorem TX.next48 (X : TX c n b tp) {s : Nat} (hs : s ≤ n) (h4 : ¬ kl c n s = 4) (t0 a0 bg0 mt0 mv0 : Int32) : ∃ (e : Nat) (tk af mat mtk mv : Int32), fX2_next_48 b (nI n) t0 (nI s) a0 = some (tk, nI s, af) ∧ fX8_next_35 tp (nI n) (nI s) bg0 mt0 mv0 = some (mat, nI s, mtk, mv) ∧ TK n b s e tk (nI s) af mat (nI s) mtk mv := by
  have hn := X.hn
  by_cases hq : s = n
  · subst hq
    refine ⟨s, 5, nI s + 1, nI s, 0, 0, ?_, ?_, rfl, rfl, Nat.le_refl _, Nat.le_refl _, Or.inl ⟨rfl, rfl, rfl⟩⟩
    · rw [fX2_next_48, X.cls (by omega), kl_n, sb3, if_neg (by decide), if_neg (by decide), fX2_next_94, c97z]
      rfl
    · rw [fX8_next_35, if_pos rfl]
  · have hs' : s < n := by omega
    have hk := kl_in (c := c) hs'
    rw [hk] at h4
    have h4' := h4
    rw [ccN_4] at h4'
    have i1 : fX8_isAt tp (nI n) (nI s) 97 122 = some (if s < n ∧ 97 ≤ c s ∧ c s ≤ 122 then 1 else 0) := X.isAt (lo := 97) (hi := 122) (by omega) (by omega) (by omega)
    have i2 : fX8_isAt tp (nI n) (nI s) 48 57 = some (if s < n ∧ 48 ≤ c s ∧ c s ≤ 57 then 1 else 0) := X.isAt (lo := 48) (hi := 57) (by omega) (by omega) (by omega)
    have i3 : fX8_isAt tp (nI n) (nI s) 59 59 = some (if s < n ∧ 59 ≤ c s ∧ c s ≤ 59 then 1 else 0) := X.isAt (lo := 59) (hi := 59) (by omega) (by omega) (by omega)
    by_cases q1 : ccN (c s) = 1
    · have w1 := ccN_1.mp q1
      obtain ⟨e, e1, e2, e3, e4⟩ := run_end (fun j => 97 ≤ c j ∧ c j ≤ 122) n (n - (s + 1)) (s + 1) (by omega)
      refine ⟨e, 1, nI e, nI e, 1, 0, ?_, ?_, rfl, rfl, by omega, e2, Or.inr ⟨by omega, rfl, rfl, Or.inl ⟨rfl, rfl⟩⟩⟩
      · rw [fX2_next_48, X.cls (by omega), hk, q1, sb3, if_pos (by decide), fX2_next_89, fX2_next_94, nI_s]
        refine X.c97 (t := 1) (by omega) e2 ?_ (nI s) (e - (s + 1)) FU (s + 1) 0 (by omega) (FU_gt (by omega)) (by omega) (fun j h1 h2 => ?_)
        · rcases e4 with z | z
          · rw [z, kl_n]; decide
          · by_cases y : e < n
            · rw [kl_in y, ccN_1]; exact z
            · rw [show e = n by omega, kl_n]; decide
        · rw [kl_in (by omega), ccN_1]; exact e3 j h1 h2
      · rw [fX8_next_35, if_eq_n hq (by omega) (by omega), i1, if_pos ⟨hs', w1⟩, sb3, if_neg (by decide)]
        exact X.m83 e2 e4 (nI s) 1 0 (e - s) FU s (by omega) (FU_gt (by omega)) (fun j h1 h2 => by
          by_cases y : j = s
          · rw [y]; exact w1
          · exact e3 j (by omega) h2)
    by_cases q2 : ccN (c s) = 2
    · have w1 := ccN_2.mp q2
      obtain ⟨e, e1, e2, e3, e4⟩ := run_end (fun j => 48 ≤ c j ∧ c j ≤ 57) n (n - (s + 1)) (s + 1) (by omega)
      have dg : ∀ j, s ≤ j → j < e → 48 ≤ c j ∧ c j ≤ 57 := fun j h1 h2 => by
          by_cases y : j = s
          · rw [y]; exact w1
          · exact e3 j (by omega) h2
      refine ⟨e, 2, nI e, nI e, 2, nI (min (VV c s (e - s) 0) 99999), ?_, ?_, rfl, rfl, by omega, e2, Or.inr ⟨by omega, rfl, rfl, Or.inr (Or.inl ⟨rfl, rfl, VV c s (e - s) 0, rfl, ?_⟩)⟩⟩
      · rw [fX2_next_48, X.cls (by omega), hk, q2, sb3, if_neg (by decide), if_pos (by decide), fX2_next_89, fX2_next_94, nI_s]
        refine X.c97 (t := 2) (by omega) e2 ?_ (nI s) (e - (s + 1)) FU (s + 1) 0 (by omega) (FU_gt (by omega)) (by omega) (fun j h1 h2 => ?_)
        · rcases e4 with z | z
          · rw [z, kl_n]; decide
          · by_cases y : e < n
            · rw [kl_in y, ccN_2]; exact z
            · rw [show e = n by omega, kl_n]; decide
        · rw [kl_in (by omega), ccN_2]; exact e3 j h1 h2
      · rw [fX8_next_35, if_eq_n hq (by omega) (by omega), i1, if_neg (by omega), sb3, if_pos rfl, i2, if_pos ⟨hs', w1⟩, sb3, if_neg (by decide)]
        exact X.m123 e2 e4 (nI s) 2 (e - s) FU s 0 (by omega) (FU_gt (by omega)) dg
      · exact X.c7 e2 (e - s) FU s 0 (by omega) (FU_gt (by omega)) dg
    have n1 : ¬ (97 ≤ c s ∧ c s ≤ 122) := fun z => q1 (ccN_1.mpr z)
    have n2 : ¬ (48 ≤ c s ∧ c s ≤ 57) := fun z => q2 (ccN_2.mpr z)
    by_cases q3 : ccN (c s) = 3
    · have w1 := ccN_3.mp q3
      refine ⟨s + 1, 3, nI (s + 1), nI (s + 1), 3, 0, ?_, ?_, rfl, rfl, by omega, by omega, Or.inr ⟨by omega, rfl, rfl, Or.inr (Or.inr (Or.inl ⟨rfl, rfl⟩))⟩⟩
      · rw [fX2_next_48, X.cls (by omega), hk, q3, sb3, if_neg (by decide), if_neg (by decide), fX2_next_94, c97z, nI_s]
        rfl
      · rw [fX8_next_35, if_eq_n hq (by omega) (by omega), i1, if_neg (fun z => n1 z.2), sb3, if_pos rfl, i2, if_neg (fun z => n2 z.2), sb3, if_pos rfl, i3, if_pos ⟨hs', by omega, by omega⟩, sb3, if_neg (by decide), nI_s]
    · have q0 := ccN_0 q1 q2 q3 h4
      have n3 : ¬ c s = 59 := fun z => q3 (ccN_3.mpr z)
      refine ⟨s + 1, 0, nI (s + 1), nI (s + 1), 4, 0, ?_, ?_, rfl, rfl, by omega, by omega, Or.inr ⟨by omega, rfl, rfl, Or.inr (Or.inr (Or.inr ⟨rfl, rfl⟩))⟩⟩
      · rw [fX2_next_48, X.cls (by omega), hk, q0, sb3, if_neg (by decide), if_neg (by decide), fX2_next_94, c97z, nI_s]
        rfl
      · rw [fX8_next_35, if_eq_n hq (by omega) (by omega), i1, if_neg (fun z => n1 z.2), sb3, if_pos rfl, i2, if_neg (fun z => n2 z.2), sb3, if_pos rfl, i3, if_neg (fun z => by omega), sb3, if_pos rfl, nI_s]
theorem TX.nextL (X : TX c n b tp) (t0 a0 bg0 mt0 mv0 : Int32) : ∀ (k f1 f2 p q : Nat), p + k = n → k < f1 → k < f2 → q ≤ p → ∃ (s e : Nat) (tk af mat mtk mv : Int32), p ≤ s ∧ fX2_next_10 f1 b (nI n) t0 (nI p) a0 (nI q) = some (tk, nI s, af) ∧ fX8_next_0 f2 tp (nI n) (nI p) bg0 mt0 mv0 = some (mat, nI s, mtk, mv) ∧ TK n b s e tk (nI s) af mat (nI s) mtk mv := by
  have hn := X.hn
  have key : ∀ (f1 f2 p q : Nat), p ≤ n → q ≤ p → ¬ kl c n p = 4 → ∃ (s e : Nat) (tk af mat mtk mv : Int32), p ≤ s ∧ fX2_next_10 (f1 + 1) b (nI n) t0 (nI p) a0 (nI q) = some (tk, nI s, af) ∧ fX8_next_0 (f2 + 1) tp (nI n) (nI p) bg0 mt0 mv0 = some (mat, nI s, mtk, mv) ∧ TK n b s e tk (nI s) af mat (nI s) mtk mv := by
    intro f1 f2 p q hp hq h4
    obtain ⟨e, tk, af, mat, mtk, mv, y1, y2, y3⟩ := X.next48 hp h4 t0 a0 bg0 mt0 mv0
    refine ⟨p, e, tk, af, mat, mtk, mv, Nat.le_refl _, ?_, ?_, y3⟩
    · rw [fX2_next_10]
      by_cases w : 600 ≤ q
      · rw [show (600 : Int32) = nI 600 from rfl, if_le_y w (by omega), y1]
      · have := kl_le c n p
        rw [show (600 : Int32) = nI 600 from rfl, if_le_n (by omega) (by omega), X.cls (by omega), sb3, lit_nI4, if_eq_n h4 (by omega) (by omega), y1]
    · have e1 : ¬ (p < n ∧ 32 ≤ c p ∧ c p ≤ 32) := fun z => h4 (by rw [kl_in z.1, ccN_4]; omega)
      have e2 : ¬ (p < n ∧ 10 ≤ c p ∧ c p ≤ 10) := fun z => h4 (by rw [kl_in z.1, ccN_4]; omega)
      rw [fX8_next_0, show (32 : Int32) = nI 32 from rfl, X.isAt (by omega) (by omega) (by omega), if_neg e1, sb3, if_pos rfl, show (10 : Int32) = nI 10 from rfl, X.isAt (by omega) (by omega) (by omega), if_neg e2, sb3, if_pos rfl, y2]
  intro k
  induction k with
  | zero =>
    intro f1 f2 p q hp h1 h2 hq
    obtain ⟨f1, rfl, -⟩ := succ_of h1
    obtain ⟨f2, rfl, -⟩ := succ_of h2
    exact key f1 f2 p q (by omega) hq (by rw [show p = n by omega, kl_n]; decide)
  | succ k ih =>
    intro f1 f2 p q hp h1 h2 hq
    obtain ⟨f1, rfl, hf1⟩ := succ_of h1
    obtain ⟨f2, rfl, hf2⟩ := succ_of h2
    by_cases h4 : kl c n p = 4
    · obtain ⟨s, e, tk, af, mat, mtk, mv, y0, y1, y2, y3⟩ := ih f1 f2 (p + 1) (q + 1) (by omega) (by omega) (by omega) (by omega)
      refine ⟨s, e, tk, af, mat, mtk, mv, by omega, ?_, ?_, y3⟩
      · rw [fX2_next_10, show (600 : Int32) = nI 600 from rfl, if_le_n (by omega) (by omega), X.cls (by omega), sb3, h4, if_pos (show nI 4 = 4 from rfl), nI_s, nI_s, y1]
      · have w := h4
        rw [kl_in (by omega), ccN_4] at w
        rw [fX8_next_0, show (32 : Int32) = nI 32 from rfl, X.isAt (by omega) (by omega) (by omega)]
        by_cases z : c p = 32
        · rw [if_pos (by omega), sb3, if_neg (by decide), fX8_next_22, nI_s, y2]
        · rw [if_neg (by omega), sb3, if_pos rfl, show (10 : Int32) = nI 10 from rfl, X.isAt (by omega) (by omega) (by omega), if_pos (by omega), sb3, if_neg (by decide), fX8_next_22, nI_s, y2]
    · exact key f1 f2 p q (by omega) hq h4
theorem TX.next (X : TX c n b tp) {p : Nat} (hp : p ≤ n) (t0 s0 bg0 mt0 mv0 : Int32) : ∃ (s e : Nat) (tk af mat mtk mv : Int32), p ≤ s ∧ fX2_next b (nI n) t0 s0 (nI p) = some (tk, nI s, af) ∧ fX8_next tp (nI n) (nI p) bg0 mt0 mv0 = some (mat, nI s, mtk, mv) ∧ TK n b s e tk (nI s) af mat (nI s) mtk mv := by
  have hn := X.hn
  exact X.nextL t0 (nI p) bg0 mt0 mv0 (n - p) FU FU p 0 (by omega) (FU_gt (by omega)) (FU_gt (by omega)) (by omega)
end
