/-! images: sorted rows, like plies, longest common rows, copies -/
def srtL (l : List Nat) : Nat → Nat → List Nat
  | 0, _ => []
  | k + 1, t => List.replicate (l.count t) t ++ srtL l k (t + 1)
def srt (l : List Nat) : List Nat := srtL l 16 0
theorem srtL_count (l : List Nat) (x : Nat) : ∀ k t, (srtL l k t).count x = if t ≤ x ∧ x < t + k then l.count x else 0
  | 0, t => by rw [srtL, if_neg (by omega)]; rfl
  | k + 1, t => by
    rw [srtL, List.count_append, srtL_count l x k (t + 1), List.count_replicate]
    by_cases c : t = x
    · rw [if_pos (by rw [c]; exact beq_self_eq_true x), if_neg (by omega), if_pos (by omega), c]; omega
    · rw [if_neg (by intro q; exact c (eq_of_beq q))]
      by_cases d : t + 1 ≤ x ∧ x < t + 1 + k
      · rw [if_pos d, if_pos (by omega)]; omega
      · rw [if_neg d, if_neg (by omega)]
theorem srt_count {l : List Nat} (h : ∀ t ∈ l, t < 16) (x : Nat) : (srt l).count x = l.count x := by
  rw [srt, srtL_count]
  by_cases c : x < 16
  · rw [if_pos (by omega)]
  · rw [if_neg (by omega)]
    exact (List.count_eq_zero_of_not_mem (fun q => c (h x q))).symm
theorem srt_perm {l : List Nat} (h : ∀ t ∈ l, t < 16) : (srt l).Perm l := List.perm_iff_count.mpr (srt_count h)
theorem srt_len {l : List Nat} (h : ∀ t ∈ l, t < 16) : (srt l).length = l.length := (srt_perm h).length_eq
theorem srt_R {l : List Nat} (h : R16 l) : R16 (srt l) := ⟨fun t ht => h.1 t ((srt_perm h.lt).mem_iff.mp ht), by rw [srt_len h.lt]; exact h.2⟩
theorem srtL_ge (l : List Nat) : ∀ k t x, x ∈ srtL l k t → t ≤ x
  | 0, t, x, h => by simp [srtL] at h
  | k + 1, t, x, h => by
    rw [srtL] at h
    rcases List.mem_append.mp h with q | q
    · rw [List.eq_of_mem_replicate q]; exact Nat.le_refl _
    · have := srtL_ge l k (t + 1) x q
      omega
theorem srtL_sorted (l : List Nat) : ∀ k t, (srtL l k t).Pairwise (· ≤ ·)
  | 0, t => by rw [srtL]; exact List.Pairwise.nil
  | k + 1, t => by
    rw [srtL, List.pairwise_append]
    refine ⟨List.pairwise_replicate.mpr (Or.inr (Nat.le_refl _)), srtL_sorted l k (t + 1), fun a ha b hb => ?_⟩
    rw [List.eq_of_mem_replicate ha]
    have := srtL_ge l k (t + 1) b hb
    omega
theorem srtL_congr {l l2 : List Nat} (h : ∀ x, l.count x = l2.count x) : ∀ k t, srtL l k t = srtL l2 k t
  | 0, _ => rfl
  | k + 1, t => by rw [srtL, srtL, h t, srtL_congr h k (t + 1)]
theorem push_rep (q : List Nat) (t k : Nat) : (q ++ [t]) ++ List.replicate k t = q ++ List.replicate (k + 1) t := by
  rw [List.append_assoc]
  rfl
theorem cSort_in {l : List Nat} (hR : R16 l) {t : Nat} (ht : t < 16) (k7 : Int32 → Int32 → Int32 → Int32 → Int32 → Option Int32) : ∀ (k n i : Nat) (q : List Nat), i + k = l.length → k < n → R16 q → q.length + (l.drop i).count t ≤ 8 → fX3_sorted_17 k7 n (pk l) (nI l.length) (pk q) (nI q.length) (nI t) (nI i) = fX3_sorted_52 k7 (pk l) (nI l.length) (pk (q ++ List.replicate ((l.drop i).count t) t)) (nI (q.length + (l.drop i).count t)) (nI t) := by
  have l8 := hR.2
  intro k
  induction k with
  | zero =>
    intro n i q hi hn hq h8
    obtain ⟨n, rfl, -⟩ := succ_of hn
    rw [fX3_sorted_17, if_le_y (by omega) (by omega), List.drop_eq_nil_of_le (by omega)]
    simp
  | succ k ih =>
    intro n i q hi hn hq h8
    obtain ⟨n, rfl, hn'⟩ := succ_of hn
    have g1 := getD_lt12 hR i
    rw [dropD (by omega), count_if] at h8 ⊢
    rw [fX3_sorted_17, if_le_n (by omega) (by omega), typeAt_pk hR (by omega)]
    simp only [fX3_sorted_46, nI_s]
    by_cases e : l.getD i 0 = t
    · rw [if_pos e] at h8 ⊢
      have hq2 := hq.push (t := t) (by omega) (by omega)
      have := ih n (i + 1) (q ++ [t]) (by omega) (by omega) hq2 (by rw [List.length_append, List.length_singleton]; omega)
      rw [List.length_append, List.length_singleton, push_rep] at this
      rw [if_eq_y e, or_pk hq (by omega) (by omega), this]
      congr 2
      omega
    · rw [if_neg e] at h8 ⊢
      simp only [Nat.add_zero] at h8 ⊢
      rw [if_eq_n e (by omega) (by omega), ih n (i + 1) q (by omega) (by omega) hq (by omega)]
theorem cSort_loop {l : List Nat} (hR : R16 l) : ∀ (k n t : Nat) (q : List Nat), t + k = 16 → k < n → R16 q → q.length + (srtL l k t).length ≤ 8 → fX3_sorted_7 n (pk l) (nI l.length) (pk q) (nI q.length) (nI t) = some (pk (q ++ srtL l k t)) := by
  have l8 := hR.2
  intro k
  induction k with
  | zero =>
    intro n t q ht hn hq h8
    obtain ⟨n, rfl, -⟩ := succ_of hn
    rw [fX3_sorted_7, show (16 : Int32) = nI 16 from rfl, if_le_y (by omega) (by omega), srtL, List.append_nil]
  | succ k ih =>
    intro n t q ht hn hq h8
    obtain ⟨n, rfl, hn'⟩ := succ_of hn
    rw [srtL, List.length_append, List.length_replicate] at h8
    have hin := cSort_in hR (t := t) (by omega) (fX3_sorted_7 n) l.length FU 0 q (by omega) (FU_gt (by omega)) hq (by rw [List.drop_zero]; omega)
    rw [List.drop_zero] at hin
    have hq2 : R16 (q ++ List.replicate (l.count t) t) := ⟨fun x hx => by
      rcases List.mem_append.mp hx with z | z
      · exact hq.1 x z
      · have e := List.mem_replicate.mp z
        rw [e.2]
        have : t ∈ l := List.count_pos_iff.mp (by omega)
        exact hR.1 t this, by rw [List.length_append, List.length_replicate]; omega⟩
    have := ih n (t + 1) (q ++ List.replicate (l.count t) t) (by omega) (by omega) hq2 (by rw [List.length_append, List.length_replicate]; omega)
    rw [List.length_append, List.length_replicate, List.append_assoc] at this
    rw [fX3_sorted_7, show (16 : Int32) = nI 16 from rfl, if_le_n (by omega) (by omega), show fX3_sorted_17 (fX3_sorted_7 n) FU (pk l) (nI l.length) (pk q) (nI q.length) (nI t) 0 = _ from hin, fX3_sorted_52, nI_s, this, srtL]
theorem cSort {l : List Nat} (hR : R16 l) : fX3_sorted (pk l) (nI l.length) = some (pk (srt l)) := by
  have := cSort_loop hR 16 FU 0 [] (by omega) (FU_gt (by omega)) ⟨by simp, by simp⟩ (by
    have := (srt_R hR).2
    rw [srt] at this
    simpa using this)
  rw [fX3_sorted]
  exact this
def sameL (l l2 : List Nat) : Nat → Nat → Bool
  | 0, _ => true
  | k + 1, t => (l.count t == l2.count t) && sameL l l2 k (t + 1)
theorem sameL_iff (l l2 : List Nat) : ∀ k t, sameL l l2 k t = true ↔ ∀ x, t ≤ x → x < t + k → l.count x = l2.count x
  | 0, t => by
    constructor
    · intro _ x h1 h2; omega
    · intro _; rfl
  | k + 1, t => by
    rw [sameL, Bool.and_eq_true, beq_iff_eq, sameL_iff l l2 k (t + 1)]
    constructor
    · intro h x h1 h2
      by_cases e : x = t
      · rw [e]; exact h.1
      · exact h.2 x (by omega) (by omega)
    · intro h
      exact ⟨h t (by omega) (by omega), fun x h1 h2 => h x (by omega) (by omega)⟩
theorem same_srt {l l2 : List Nat} (hR : R16 l) (hR2 : R16 l2) : sameL l l2 12 0 = true ↔ (l.length = l2.length ∧ pk (srt l) = pk (srt l2)) := by
  rw [sameL_iff]
  constructor
  · intro h
    have hc : ∀ x, l.count x = l2.count x := fun x => by
      by_cases c : x < 12
      · exact h x (by omega) (by omega)
      · rw [List.count_eq_zero_of_not_mem (fun q => c (hR.1 x q)), List.count_eq_zero_of_not_mem (fun q => c (hR2.1 x q))]
    have e : srt l = srt l2 := srtL_congr hc 16 0
    exact ⟨by rw [← srt_len hR.lt, ← srt_len hR2.lt, e], by rw [e]⟩
  · intro h x _ _
    have e : srt l = srt l2 := pk_inj (srt_R hR).lt (srt_R hR2).lt (by rw [srt_len hR.lt, srt_len hR2.lt]; exact h.1) (srt_R hR).2 h.2
    rw [← srt_count hR.lt, ← srt_count hR2.lt, e]
theorem cntD (l : List Nat) (i t : Nat) : (l.drop i).count t = (if i < l.length ∧ l.getD i 0 = t then 1 else 0) + (l.drop (i + 1)).count t := by
  by_cases c : i < l.length
  · rw [dropD c, count_if]
    by_cases d : l.getD i 0 = t
    · rw [if_pos d, if_pos ⟨c, d⟩]; omega
    · rw [if_neg d, if_neg (fun q => d q.2)]; omega
  · rw [List.drop_eq_nil_of_le (by omega), List.drop_eq_nil_of_le (by omega), if_neg (fun q => c q.1)]
    rfl
theorem idx27 {i k : Nat} (hi : i < 3) (hk : k < 27) : (27 * nI i) + nI k = nI (27 * i + k) := by rw [lit_nI27, nI_mul, nI_add]
section
variable {numbers cells rows sizes rooms images : Nat → Int32} {kn a : Nat} {l : List Nat} {rm : Nat} {nb : Nat → Int} {i : Nat}
theorem VW.manyIn (h : VW numbers cells rows sizes rooms (fun q => images (27 * i + q)) kn a l rm nb) (hi : i < 3) : fX8_manyIn images (nI i) = some (nI l.length) := by
  rw [fX8_manyIn, lit_nI2, idx27 hi (by omega), chkN (by omega) (by omega), nI_clamp' (by omega)]
  exact congrArg some h.m2
theorem VW.typeIn (h : VW numbers cells rows sizes rooms (fun q => images (27 * i + q)) kn a l rm nb) (hi : i < 3) {p : Nat} (hp : p < l.length) : fX8_typeIn images (nI i) (nI p) = some (nI (l.getD p 0)) := by
  have l8 := h.len
  rw [fX8_typeIn, lit_nI19, idx27 hi (by omega), nI_add, chkN (by omega) (by omega), nI_clamp' (by omega), Nat.add_assoc]
  exact congrArg some (h.mt p hp)
end
section
variable {numbers cells rows sizes rooms images numbers2 cells2 rows2 sizes2 rooms2 : Nat → Int32} {kn a kn2 a2 : Nat} {l l2 : List Nat} {rm rm2 : Nat} {nb nb2 : Nat → Int} {i j : Nat}
theorem alike_in (h : VW numbers cells rows sizes rooms (fun q => images (27 * i + q)) kn a l rm nb) (h2 : VW numbers2 cells2 rows2 sizes2 rooms2 (fun q => images (27 * j + q)) kn2 a2 l2 rm2 nb2) (hi : i < 3) (hj : j < 3) {t : Nat} (ht : t < 12) (k16 : (Nat → Int32) → Int32 → Int32 → Int32 → Option Int32) : ∀ (k n p : Nat) (acc : Int), p + k = 8 → k < n → fX8_alike_29 k16 n images (nI i) (nI j) (nI t) (i32 acc) (nI p) = fX8_alike_106 k16 images (nI i) (nI j) (nI t) (i32 (acc + (((l.drop p).count t : Nat) : Int) - (((l2.drop p).count t : Nat) : Int))) := by
  have l8 := h.len
  have l82 := h2.len
  intro k
  induction k with
  | zero =>
    intro n p acc hp hn
    obtain ⟨n, rfl, -⟩ := succ_of hn
    rw [fX8_alike_29, lit_nI8, if_le_y (by omega) (by omega), List.drop_eq_nil_of_le (by omega), List.drop_eq_nil_of_le (by omega)]
    simp
  | succ k ih =>
    intro n p acc hp hn
    obtain ⟨n, rfl, hn'⟩ := succ_of hn
    have g1 := getD_lt12 h.R p
    have g2 := getD_lt12 h2.R p
    have st2 : ∀ (x y : Int), fX8_alike_97 k16 (fX8_alike_29 k16 n) images (nI i) (nI j) (nI t) (nI p) (i32 x) (i32 y) = fX8_alike_106 k16 images (nI i) (nI j) (nI t) (i32 (x - y + (((l.drop (p + 1)).count t : Nat) : Int) - (((l2.drop (p + 1)).count t : Nat) : Int))) := by
      intro x y
      rw [fX8_alike_97, ← i32_sub, nI_s, ih n (p + 1) _ (by omega) (by omega)]
    have st1 : ∀ (x y : Int), fX8_alike_65 k16 (fX8_alike_29 k16 n) images (nI i) (nI j) (nI t) (nI p) (i32 x) (i32 y) = fX8_alike_106 k16 images (nI i) (nI j) (nI t) (i32 (x + y + (((l.drop (p + 1)).count t : Nat) : Int) - (((l2.drop p).count t : Nat) : Int))) := by
      intro x y
      rw [fX8_alike_65, h2.manyIn hj, Option.bind_some, ← i32_add, fX8_alike_96, show (0 : Int32) = i32 0 from rfl, st2, cntD l2 p t]
      by_cases c : p < l2.length
      · rw [if_le_n c (by omega), h2.typeIn hj c, Option.bind_some]
        by_cases d : l2.getD p 0 = t
        · rw [if_eq_y d, if_pos ⟨c, d⟩, show (1 : Int32) = i32 1 from rfl, st2]
          congr 2
          omega
        · rw [if_eq_n d (by omega) (by omega), if_neg (fun q => d q.2)]
          congr 2
          omega
      · rw [if_le_y (by omega) (by omega), if_neg (fun q => c q.1)]
        congr 2
        omega
    rw [fX8_alike_29, lit_nI8, if_le_n (by omega) (by omega), h.manyIn hi, Option.bind_some, fX8_alike_64, show (0 : Int32) = i32 0 from rfl, st1, cntD l p t]
    by_cases c : p < l.length
    · rw [if_le_n c (by omega), h.typeIn hi c, Option.bind_some]
      by_cases d : l.getD p 0 = t
      · rw [if_eq_y d, if_pos ⟨c, d⟩, show (1 : Int32) = i32 1 from rfl, st1]
        congr 2
        omega
      · rw [if_eq_n d (by omega) (by omega), if_neg (fun q => d q.2)]
        congr 2
        omega
    · rw [if_le_y (by omega) (by omega), if_neg (fun q => c q.1)]
      congr 2
      omega
theorem alike_loop (h : VW numbers cells rows sizes rooms (fun q => images (27 * i + q)) kn a l rm nb) (h2 : VW numbers2 cells2 rows2 sizes2 rooms2 (fun q => images (27 * j + q)) kn2 a2 l2 rm2 nb2) (hi : i < 3) (hj : j < 3) : ∀ (k n t : Nat), t + k = 12 → k < n → fX8_alike_16 n images (nI i) (nI j) (nI t) = some (b32 (sameL l l2 k t)) := by
  intro k
  induction k with
  | zero =>
    intro n t ht hn
    obtain ⟨n, rfl, -⟩ := succ_of hn
    rw [fX8_alike_16, show (12 : Int32) = nI 12 from rfl, if_le_y (by omega) (by omega), sameL]
    rfl
  | succ k ih =>
    intro n t ht hn
    obtain ⟨n, rfl, hn'⟩ := succ_of hn
    have c1 := count_le8 h.R t
    have c2 := count_le8 h2.R t
    have e := alike_in h h2 hi hj (t := t) (by omega) (fX8_alike_16 n) 8 FU 0 0 (by omega) (FU_gt (by omega))
    rw [fX8_alike_16, show (12 : Int32) = nI 12 from rfl, if_le_n (by omega) (by omega), show fX8_alike_29 (fX8_alike_16 n) FU images (nI i) (nI j) (nI t) 0 0 = _ from e, fX8_alike_106, List.drop_zero, List.drop_zero, nI_s, sameL, ih n (t + 1) (by omega) (by omega)]
    by_cases d : l.count t = l2.count t
    · rw [if_pos, beq_iff_eq.mpr d, Bool.true_and]
      rw [d, show (0 : Int32) = i32 0 from rfl]
      congr 1
      omega
    · rw [if_neg, beq_eq_false_iff_ne.mpr d, Bool.false_and]
      · rfl
      · intro q
        have := (i32_eq (b := 0) ⟨by omega, by omega⟩ ⟨by omega, by omega⟩).mp q
        omega
theorem sameC (h : VW numbers cells rows sizes rooms (fun q => images (27 * i + q)) kn a l rm nb) (h2 : VW numbers2 cells2 rows2 sizes2 rooms2 (fun q => images (27 * j + q)) kn2 a2 l2 rm2 nb2) : fX1_isOfSamePlies rows sizes (nI a) rows2 sizes2 (nI a2) = some (b32 (sameL l l2 12 0)) := by
  have l8 := h.len
  have l82 := h2.len
  have e := same_srt h.R h2.R
  simp only [fX1_isOfSamePlies, h.plies, h2.plies, h.row, h2.row, Option.bind_some, cSort h.R, cSort h2.R]
  by_cases c : l.length = l2.length
  · rw [if_eq_y c]
    by_cases d : pk (srt l) = pk (srt l2)
    · rw [if_pos d, e.mpr ⟨c, d⟩]; rfl
    · rw [if_neg d, Bool.eq_false_iff.mpr (fun q => d (e.mp q).2)]; rfl
  · rw [if_eq_n c (by omega) (by omega), Bool.eq_false_iff.mpr (fun q => c (e.mp q).1)]; rfl
end
