/-! the list of orders: what its members are, none twice, how many -/
def dec (cnt : Nat → Nat) (t : Nat) : Nat → Nat := fun x => if x = t then cnt x - 1 else cnt x
def ofl {α : Type} (f : Nat → List α) : Nat → Nat → List α
  | 0, _ => []
  | k + 1, t => f t ++ ofl f k (t + 1)
theorem ofl_12 {α : Type} (f : Nat → List α) : (List.range 12).flatMap f = ofl f 12 0 := by
  rw [show List.range 12 = [0, 1, 2, 3, 4, 5, 6, 7, 8, 9, 10, 11] from rfl]
  simp only [List.flatMap_cons, List.flatMap_nil, ofl]
theorem ords_s (rm d : Nat) (cnt : Nat → Nat) (pre : List Nat) : ords rm (d + 1) cnt pre = ofl (fun t => if cnt t = 0 ∨ rm < runTop (t :: pre) then [] else ords rm d (dec cnt t) (t :: pre)) 12 0 := by
  rw [ords, ofl_12]
  rfl
theorem ofl_mem {α : Type} {f : Nat → List α} {x : α} : ∀ k t, x ∈ ofl f k t ↔ ∃ s, t ≤ s ∧ s < t + k ∧ x ∈ f s
  | 0, t => by
    rw [ofl]
    constructor
    · intro h; simp at h
    · rintro ⟨s, h1, h2, -⟩; omega
  | k + 1, t => by
    rw [ofl, List.mem_append, ofl_mem k (t + 1)]
    constructor
    · rintro (h | ⟨s, h1, h2, h3⟩)
      · exact ⟨t, by omega, by omega, h⟩
      · exact ⟨s, by omega, by omega, h3⟩
    · rintro ⟨s, h1, h2, h3⟩
      by_cases e : s = t
      · left; rw [← e]; exact h3
      · right; exact ⟨s, by omega, by omega, h3⟩
theorem ofl_split {α : Type} (f : Nat → List α) : ∀ (a b t : Nat), ofl f (a + b) t = ofl f a t ++ ofl f b (t + a)
  | 0, b, t => by rw [Nat.zero_add, ofl]; rfl
  | a + 1, b, t => by
    rw [show a + 1 + b = (a + b) + 1 by omega, ofl, ofl, ofl_split f a b (t + 1), List.append_assoc, show t + 1 + a = t + (a + 1) by omega]
theorem ofl_nil {α : Type} {f : Nat → List α} : ∀ (k t : Nat), (∀ s, t ≤ s → s < t + k → f s = []) → ofl f k t = []
  | 0, t, _ => by rw [ofl]
  | k + 1, t, h => by rw [ofl, h t (by omega) (by omega), ofl_nil k (t + 1) (fun s h1 h2 => h s (by omega) (by omega))]; rfl
theorem ofl_congr {α : Type} {f g : Nat → List α} : ∀ (k t : Nat), (∀ s, t ≤ s → s < t + k → f s = g s) → ofl f k t = ofl g k t
  | 0, t, _ => by rw [ofl, ofl]
  | k + 1, t, h => by rw [ofl, ofl, h t (by omega) (by omega), ofl_congr k (t + 1) (fun s h1 h2 => h s (by omega) (by omega))]
theorem ords_mem (rm : Nat) : ∀ (d : Nat) (cnt : Nat → Nat) (pre x : List Nat), x ∈ ords rm d cnt pre → ∃ y, x = pre.reverse ++ y ∧ y.length = d ∧ ∀ t ∈ y, t < 12 ∧ 0 < cnt t
  | 0, cnt, pre, x, h => by
    rw [ords] at h
    rw [List.mem_singleton] at h
    exact ⟨[], by rw [h]; simp, rfl, fun t ht => by simp at ht⟩
  | d + 1, cnt, pre, x, h => by
    rw [ords_s, ofl_mem] at h
    obtain ⟨s, h1, h2, h3⟩ := h
    by_cases c : cnt s = 0 ∨ rm < runTop (s :: pre)
    · rw [if_pos c] at h3; simp at h3
    · rw [if_neg c] at h3
      obtain ⟨y, e1, e2, e3⟩ := ords_mem rm d _ _ x h3
      refine ⟨s :: y, ?_, by rw [List.length_cons, e2], fun t ht => ?_⟩
      · rw [e1, List.reverse_cons, List.append_assoc]; rfl
      · rcases List.mem_cons.mp ht with q | q
        · rw [q]; exact ⟨by omega, by omega⟩
        · have := e3 t q
          refine ⟨this.1, ?_⟩
          have h4 := this.2
          unfold dec at h4
          split at h4 <;> omega
theorem ofl_nodup {α : Type} {f : Nat → List α} : ∀ (k t : Nat), (∀ s, t ≤ s → s < t + k → (f s).Nodup) → (∀ s u x, t ≤ s → s < u → u < t + k → x ∈ f s → x ∈ f u → False) → (ofl f k t).Nodup
  | 0, t, _, _ => by rw [ofl]; exact List.Pairwise.nil
  | k + 1, t, h1, h2 => by
    rw [ofl, List.nodup_append]
    refine ⟨h1 t (by omega) (by omega), ofl_nodup k (t + 1) (fun s a b => h1 s (by omega) (by omega)) (fun s u x a b c => h2 s u x (by omega) b (by omega)), ?_⟩
    intro x hx y hy e
    rw [ofl_mem] at hy
    obtain ⟨s, a, b, c⟩ := hy
    subst e
    exact h2 t s x (by omega) (by omega) (by omega) hx c
theorem ords_nodup (rm : Nat) : ∀ (d : Nat) (cnt : Nat → Nat) (pre : List Nat), (ords rm d cnt pre).Nodup
  | 0, cnt, pre => by rw [ords]; simp
  | d + 1, cnt, pre => by
    rw [ords_s]
    refine ofl_nodup 12 0 (fun s _ _ => ?_) (fun s u x _ h2 _ hx hy => ?_)
    · split
      · exact List.Pairwise.nil
      · exact ords_nodup rm d _ _
    · split at hx
      · simp at hx
      · split at hy
        · simp at hy
        · obtain ⟨y1, e1, -, -⟩ := ords_mem rm d _ _ x hx
          obtain ⟨y2, e2, -, -⟩ := ords_mem rm d _ _ x hy
          rw [e1, List.reverse_cons, List.reverse_cons, List.append_assoc, List.append_assoc] at e2
          have := List.append_cancel_left e2
          have h3 : s :: y1 = u :: y2 := this
          injection h3
          omega
/-- how many there are if runs may be long -/
def smT (f : Nat → Nat) : Nat → Nat → Nat
  | 0, _ => 0
  | k + 1, t => f t + smT f k (t + 1)
def full : Nat → (Nat → Nat) → Nat
  | 0, _ => 1
  | d + 1, cnt => smT (fun t => if cnt t = 0 then 0 else full d (dec cnt t)) 12 0
theorem smT_le {f g : Nat → Nat} : ∀ (k t : Nat), (∀ s, t ≤ s → s < t + k → f s ≤ g s) → smT f k t ≤ smT g k t
  | 0, t, _ => by rw [smT, smT]; exact Nat.le_refl _
  | k + 1, t, h => by
    rw [smT, smT]
    exact Nat.add_le_add (h t (by omega) (by omega)) (smT_le k (t + 1) (fun s h1 h2 => h s (by omega) (by omega)))
theorem smT_congr {f g : Nat → Nat} : ∀ (k t : Nat), (∀ s, t ≤ s → s < t + k → f s = g s) → smT f k t = smT g k t
  | 0, t, _ => by rw [smT, smT]
  | k + 1, t, h => by rw [smT, smT, h t (by omega) (by omega), smT_congr k (t + 1) (fun s h1 h2 => h s (by omega) (by omega))]
theorem ofl_len {α : Type} (f : Nat → List α) : ∀ (k t : Nat), (ofl f k t).length = smT (fun s => (f s).length) k t
  | 0, t => rfl
  | k + 1, t => by rw [ofl, smT, List.length_append, ofl_len f k (t + 1)]
theorem ords_full (rm : Nat) : ∀ (d : Nat) (cnt : Nat → Nat) (pre : List Nat), (ords rm d cnt pre).length ≤ full d cnt
  | 0, cnt, pre => by rw [ords, full]; exact Nat.le_refl _
  | d + 1, cnt, pre => by
    rw [ords_s, ofl_len, full]
    refine smT_le 12 0 (fun s _ _ => ?_)
    by_cases c : cnt s = 0
    · rw [if_pos (Or.inl c), if_pos c]; exact Nat.le_refl _
    · rw [if_neg c]
      split
      · exact Nat.zero_le _
      · exact ords_full rm d _ _
theorem full_congr : ∀ (d : Nat) (c1 c2 : Nat → Nat), (∀ t, t < 12 → c1 t = c2 t) → full d c1 = full d c2
  | 0, c1, c2, _ => by rw [full, full]
  | d + 1, c1, c2, h => by
    rw [full, full]
    refine smT_congr 12 0 (fun s _ h2 => ?_)
    rw [h s (by omega), full_congr d (dec c1 s) (dec c2 s) (fun t ht => by unfold dec; rw [h t ht])]
theorem smT_add (f g : Nat → Nat) : ∀ (k t : Nat), smT (fun s => f s + g s) k t = smT f k t + smT g k t
  | 0, t => rfl
  | k + 1, t => by rw [smT, smT, smT, smT_add f g k (t + 1)]; omega
theorem smT_mul (f : Nat → Nat) (a : Nat) : ∀ (k t : Nat), smT (fun s => a * f s) k t = a * smT f k t
  | 0, t => rfl
  | k + 1, t => by rw [smT, smT, smT_mul f a k (t + 1), Nat.mul_add]
theorem smT_one (v u : Nat) : ∀ (k t : Nat), t ≤ u → u < t + k → smT (fun s => if s = u then v else 0) k t = v
  | 0, t, h1, h2 => by omega
  | k + 1, t, h1, h2 => by
    rw [smT]
    by_cases e : t = u
    · rw [if_pos e]
      have : smT (fun s => if s = u then v else 0) k (t + 1) = 0 := by
        have q : ∀ (k t : Nat), u < t → smT (fun s => if s = u then v else 0) k t = 0 := by
          intro k
          induction k with
          | zero => intro t _; rfl
          | succ k ih => intro t h; rw [smT, if_neg (by omega), ih (t + 1) (by omega)]
        exact q k (t + 1) (by omega)
      omega
    · rw [if_neg e, smT_one v u k (t + 1) (by omega) (by omega), Nat.zero_add]
def inc (cnt : Nat → Nat) (t : Nat) : Nat → Nat := fun x => if x = t then cnt x + 1 else cnt x
theorem dec_at (cnt : Nat → Nat) (t x : Nat) : dec cnt t x = if x = t then cnt x - 1 else cnt x := rfl
theorem inc_at (cnt : Nat → Nat) (t x : Nat) : inc cnt t x = if x = t then cnt x + 1 else cnt x := rfl
/-- one more of a type -/
theorem full_inc : ∀ (d : Nat) (cnt : Nat → Nat) (t : Nat), t < 12 → smT cnt 12 0 = d → (cnt t + 1) * full (d + 1) (inc cnt t) = (d + 1) * full d cnt := by
  intro d
  induction d with
  | zero =>
    intro cnt t ht hs
    have z : ∀ (k s : Nat), smT cnt k s = 0 → ∀ u, s ≤ u → u < s + k → cnt u = 0 := by
      intro k
      induction k with
      | zero => intro s _ u h1 h2; omega
      | succ k ih =>
        intro s h u h1 h2
        rw [smT] at h
        by_cases e : u = s
        · rw [e]; omega
        · exact ih (s + 1) (by omega) u (by omega) (by omega)
    have z0 := z 12 0 hs
    rw [z0 t (by omega) (by omega), full, full, Nat.zero_add, Nat.one_mul, Nat.one_mul]
    rw [smT_congr (g := fun s => if s = t then 1 else 0) 12 0 (fun s _ h2 => ?_)]
    · exact smT_one 1 t 12 0 (by omega) (by omega)
    · unfold inc
      by_cases e : s = t
      · rw [if_pos e, if_pos e, z0 s (by omega) (by omega), if_neg (by omega), full]
      · rw [if_neg e, if_neg e, z0 s (by omega) (by omega), if_pos rfl]
  | succ d ih =>
    intro cnt t ht hs
    -- the part of type s in the sums
    have sd : ∀ s, s < 12 → ¬ cnt s = 0 → smT (dec cnt s) 12 0 = d := by
      intro s h12 h0
      have e : smT cnt 12 0 = smT (fun u => dec cnt s u + (if u = s then 1 else 0)) 12 0 := smT_congr 12 0 (fun u _ _ => by
        unfold dec
        by_cases q : u = s
        · rw [if_pos q, if_pos q, q]; omega
        · rw [if_neg q, if_neg q, Nat.add_zero])
      rw [smT_add, smT_one 1 s 12 0 (by omega) (by omega)] at e
      omega
    have i1 : ∀ s, s < 12 → ¬ cnt s = 0 → ¬ s = t → (cnt t + 1) * full (d + 1) (dec (inc cnt t) s) = (d + 1) * full d (dec cnt s) := by
      intro s h12 h0 hst
      have := ih (dec cnt s) t ht (sd s h12 h0)
      rw [show dec cnt s t = cnt t by unfold dec; rw [if_neg (fun q => hst q.symm)]] at this
      rw [← this]
      congr 1
      refine full_congr _ _ _ (fun u _ => ?_)
      simp only [dec_at, inc_at]
      repeat' split
      all_goals omega
    have i2 : ¬ cnt t = 0 → cnt t * full (d + 1) cnt = (d + 1) * full d (dec cnt t) := by
      intro h0
      have := ih (dec cnt t) t ht (sd t ht h0)
      rw [show dec cnt t t = cnt t - 1 by unfold dec; rw [if_pos rfl], show cnt t - 1 + 1 = cnt t by omega] at this
      rw [← this]
      congr 1
      refine full_congr _ _ _ (fun u _ => ?_)
      simp only [dec_at, inc_at]
      by_cases q : u = t
      · subst q
        simp only [if_true]
        omega
      · simp only [if_neg q]
    have i3 : full (d + 1) (dec (inc cnt t) t) = full (d + 1) cnt := full_congr _ _ _ (fun u _ => by
      simp only [dec_at, inc_at]
      repeat' split
      all_goals omega)
    -- (cnt t + 1) * full (d+2) (inc cnt t) as a sum
    have l1 : (cnt t + 1) * full (d + 2) (inc cnt t) = smT (fun s => (if s = t then (cnt t + 1) * full (d + 1) cnt else 0) + (if s = t then 0 else if cnt s = 0 then 0 else (d + 1) * full d (dec cnt s))) 12 0 := by
      rw [full, ← smT_mul]
      refine smT_congr 12 0 (fun s _ h2 => ?_)
      by_cases q : s = t
      · rw [if_pos q, if_pos q, if_neg (by rw [inc_at, if_pos q]; omega), q, i3, Nat.add_zero]
        rfl
      · rw [if_neg q, if_neg q, show inc cnt t s = cnt s by rw [inc_at, if_neg q]]
        by_cases r : cnt s = 0
        · rw [if_pos r, if_pos r]
          rfl
        · rw [if_neg r, if_neg r, i1 s (by omega) r q, Nat.zero_add]
    have l2 : (d + 1) * full (d + 1) cnt = smT (fun s => (if s = t then cnt t * full (d + 1) cnt else 0) + (if s = t then 0 else if cnt s = 0 then 0 else (d + 1) * full d (dec cnt s))) 12 0 := by
      have e : (d + 1) * full (d + 1) cnt = smT (fun s => (d + 1) * (if cnt s = 0 then 0 else full d (dec cnt s))) 12 0 := by
        rw [smT_mul]
        rfl
      rw [e]
      refine smT_congr 12 0 (fun s _ h2 => ?_)
      by_cases q : s = t
      · rw [if_pos q, if_pos q, q, Nat.add_zero]
        by_cases r : cnt t = 0
        · rw [if_pos r, r, Nat.zero_mul, Nat.mul_zero]
        · rw [if_neg r, i2 r]
          rfl
      · rw [if_neg q, if_neg q, Nat.zero_add]
        by_cases r : cnt s = 0
        · rw [if_pos r, if_pos r, Nat.mul_zero]
        · rw [if_neg r, if_neg r]
    rw [smT_add, smT_one _ t 12 0 (by omega) (by omega)] at l1 l2
    rw [l1, Nat.add_mul, Nat.one_mul, Nat.add_mul (d + 1) 1, Nat.one_mul, l2]
    omega
/-- the number of rows as the class reckons it -/
def mrL (l : List Nat) : Nat → Nat → Nat → Nat → Nat
  | 0, _, m, _ => m
  | k + 1, i, m, s => let s' := if 0 < i ∧ l.getD i 0 = l.getD (i - 1) 0 then s + 1 else 1; mrL l k (i + 1) (m * (i + 1) / s') s'
theorem smT_cnt : ∀ (l : List Nat), (∀ t ∈ l, t < 12) → smT (cntOf l) 12 0 = l.length
  | [], _ => by
    rw [smT_congr (g := fun _ => 0) 12 0 (fun s _ _ => by simp [cntOf])]
    rfl
  | a :: l, h => by
    have ih := smT_cnt l (fun t ht => h t (List.mem_cons_of_mem _ ht))
    have ha := h a List.mem_cons_self
    rw [smT_congr (g := fun s => cntOf l s + (if s = a then 1 else 0)) 12 0 (fun s _ _ => by
      unfold cntOf
      rw [count_if]
      by_cases e : a = s
      · rw [if_pos e, if_pos e.symm]
      · rw [if_neg e, if_neg (fun q => e q.symm)]), smT_add, smT_one 1 a 12 0 (by omega) (by omega), ih, List.length_cons]
theorem sorted_same {l : List Nat} (hs : l.Pairwise (· ≤ ·)) {i : Nat} (hi : i < l.length) (h0 : 0 < i) (he : ¬ l.getD i 0 = l.getD (i - 1) 0) : (l.take i).count (l.getD i 0) = 0 := by
  refine List.count_eq_zero_of_not_mem (fun q => ?_)
  obtain ⟨p, hp, e⟩ := mem_getD q
  rw [List.length_take] at hp
  have h1 : ∀ j k, j ≤ k → k < l.length → l.getD j 0 ≤ l.getD k 0 := by
    intro j k hjk hk
    by_cases c : j = k
    · rw [c]; exact Nat.le_refl _
    · rw [List.getD_eq_getElem?_getD, List.getD_eq_getElem?_getD, List.getElem?_eq_getElem (by omega), List.getElem?_eq_getElem hk]
      exact List.pairwise_iff_getElem.mp hs j k (by omega) hk (by omega)
  have e2 : (l.take i).getD p 0 = l.getD p 0 := by rw [List.getD_eq_getElem?_getD, List.getElem?_take_of_lt (by omega), List.getD_eq_getElem?_getD]
  rw [e2] at e
  have a1 := h1 p (i - 1) (by omega) (by omega)
  have a2 := h1 (i - 1) i (by omega) hi
  omega
theorem count_snoc (l : List Nat) (t x : Nat) : (l ++ [t]).count x = l.count x + if t = x then 1 else 0 := by
  rw [List.count_append, count_if, List.count_nil, Nat.zero_add]
theorem mrL_full {l : List Nat} (hR : ∀ t ∈ l, t < 12) (hs : l.Pairwise (· ≤ ·)) : ∀ (k i m s : Nat), i + k = l.length → m = full i (cntOf (l.take i)) → (0 < i → s = (l.take i).count (l.getD (i - 1) 0)) → mrL l k i m s = full l.length (cntOf l) := by
  intro k
  induction k with
  | zero =>
    intro i m s hi hm _
    rw [mrL, hm, show i = l.length by omega, List.take_length]
  | succ k ih =>
    intro i m s hi hm hsm
    rw [mrL]
    have il : i < l.length := by omega
    have g12 : l.getD i 0 < 12 := hR _ (getD_mem il)
    have s' : (if 0 < i ∧ l.getD i 0 = l.getD (i - 1) 0 then s + 1 else 1) = (l.take i).count (l.getD i 0) + 1 := by
      by_cases c : 0 < i ∧ l.getD i 0 = l.getD (i - 1) 0
      · rw [if_pos c, hsm c.1, c.2]
      · rw [if_neg c]
        by_cases c0 : 0 < i
        · rw [sorted_same hs il c0 (fun q => c ⟨c0, q⟩)]
        · rw [show i = 0 by omega]; rfl
    have tk : l.take (i + 1) = l.take i ++ [l.getD i 0] := (take_s il).symm
    have fi := full_inc i (cntOf (l.take i)) (l.getD i 0) g12 (by
      rw [smT_cnt _ (fun t ht => hR t (List.mem_of_mem_take ht)), List.length_take]; omega)
    have ce : full (i + 1) (inc (cntOf (l.take i)) (l.getD i 0)) = full (i + 1) (cntOf (l.take (i + 1))) := full_congr _ _ _ (fun u _ => by
      unfold inc cntOf
      rw [tk, count_snoc]
      by_cases q : u = l.getD i 0
      · rw [if_pos q, if_pos q.symm]
      · rw [if_neg q, if_neg (fun r => q r.symm), Nat.add_zero])
    rw [ce] at fi
    show mrL l k (i + 1) (m * (i + 1) / _) _ = _
    rw [s']
    refine ih (i + 1) _ _ (by omega) ?_ (fun _ => ?_)
    · rw [hm, Nat.mul_comm, ← fi]
      show (cntOf (l.take i) (l.getD i 0) + 1) * _ / (cntOf (l.take i) (l.getD i 0) + 1) = _
      rw [Nat.mul_div_cancel_left _ (by omega)]
    · rw [Nat.add_sub_cancel, tk, count_snoc, if_pos rfl]
theorem mrL_pot (l : List Nat) : ∀ (k i m s : Nat), (m, s) ∈ potL i → ∃ s2, (mrL l k i m s, s2) ∈ potL (i + k)
  | 0, i, m, s, h => ⟨s, by rw [mrL]; exact h⟩
  | k + 1, i, m, s, h => by
    rw [mrL]
    have : ∃ s2, (mrL l k (i + 1) (m * (i + 1) / (if 0 < i ∧ l.getD i 0 = l.getD (i - 1) 0 then s + 1 else 1)) (if 0 < i ∧ l.getD i 0 = l.getD (i - 1) 0 then s + 1 else 1), s2) ∈ potL ((i + 1) + k) := by
      refine mrL_pot l k (i + 1) _ _ ?_
      rw [potL, List.mem_flatMap]
      refine ⟨(m, s), h, ?_⟩
      by_cases c : 0 < i ∧ l.getD i 0 = l.getD (i - 1) 0
      · rw [if_pos c]; simp
      · rw [if_neg c, Nat.div_one]; simp
    rw [show i + (k + 1) = (i + 1) + k by omega]
    exact this
theorem potS_le : ∀ v ∈ potS, v ≤ 40320 := by decide +kernel
theorem potS_mem {k m s : Nat} (hk : k ≤ 8) (h : (m, s) ∈ potL k) : m ∈ potS := by
  unfold potS
  rw [List.mem_eraseDups, List.mem_flatMap]
  exact ⟨k, List.mem_range.mpr (by omega), List.mem_map.mpr ⟨(m, s), h, rfl⟩⟩
theorem pot_gain {n m : Nat} (h : n < m) (hm : m ∈ potS) : pot n + m ≤ pot m := by
  unfold pot
  have key : ∀ L : List Nat, m ∈ L → (L.filter (fun v => decide (v ≤ n))).sum + m ≤ (L.filter (fun v => decide (v ≤ m))).sum := by
    intro L
    induction L with
    | nil => intro q; simp at q
    | cons a L ih =>
      intro q
      rw [List.filter_cons, List.filter_cons]
      have mono : (L.filter (fun v => decide (v ≤ n))).sum ≤ (L.filter (fun v => decide (v ≤ m))).sum := by
        clear ih q
        induction L with
        | nil => exact Nat.le_refl _
        | cons b L ih2 =>
          rw [List.filter_cons, List.filter_cons]
          by_cases c1 : b ≤ n
          · rw [if_pos (decide_eq_true c1), if_pos (decide_eq_true (by omega)), List.sum_cons, List.sum_cons]; omega
          · rw [if_neg (by rw [decide_eq_false c1]; decide)]
            by_cases c2 : b ≤ m
            · rw [if_pos (decide_eq_true c2), List.sum_cons]; omega
            · rw [if_neg (by rw [decide_eq_false c2]; decide)]; exact ih2
      by_cases e : a = m
      · rw [if_neg (by rw [decide_eq_false (by omega)]; decide), if_pos (decide_eq_true (by omega)), List.sum_cons, e]
        omega
      · have q2 : m ∈ L := by
          rcases List.mem_cons.mp q with z | z
          · exact absurd z.symm e
          · exact z
        have := ih q2
        by_cases c1 : a ≤ n
        · rw [if_pos (decide_eq_true c1), if_pos (decide_eq_true (by omega)), List.sum_cons, List.sum_cons]; omega
        · rw [if_neg (by rw [decide_eq_false c1]; decide)]
          by_cases c2 : a ≤ m
          · rw [if_pos (decide_eq_true c2), List.sum_cons]; omega
          · rw [if_neg (by rw [decide_eq_false c2]; decide)]; exact this
  exact key potS hm
