/-! what holds at the law's entry -/
theorem eqRf {args : Array Value} {s : State} {t u : Term} {a : Nat} (h : (Cond.eq t u).before args s = true) (ht : t.eval args s none [] s = some (.ref a)) : u.eval args s none [] s = some (.ref a) := by
  cases hv : u.eval args s none [] s with
  | none => simp [Cond.before, Cond.holds, Cond.value, ht, hv] at h
  | some w =>
    simp only [Cond.before, Cond.holds, Cond.value, ht, hv] at h
    cases w <;> simp_all
abbrev gvL : List Cond := flatC (Jvm.Cond.and given_1 narrow_1)
def tmS (i : Nat) : Term := .string "PlyStacker$Reader" ([98, 103, 80, 89, 125, 131, 133, 135, 137, 168, 170, 172, 174].getD i 0)
def tmM (i : Nat) : Term := .string "PlyStackerModel" ([143, 145, 151, 153, 158, 160, 162, 164, 166, 168, 170, 172, 174].getD i 0)
def tmT (k : Nat) : Term := .static (stA.getD k ("", "", [])).1 (stA.getD k ("", "", [])).2.1 "[I"
theorem gv_ex : ∀ i, i < 13 → Cond.exactly (tmS i) "java/lang/String" ∈ gvL := by decide +kernel
theorem gv_co : ∀ i, i < 13 → Cond.eq (.field (tmS i) "java/lang/String" "coder" "B") (.int 0) ∈ gvL := by decide +kernel
theorem gv_ar : ∀ i, i < 13 → Cond.arrayOf (.field (tmS i) "java/lang/String" "value" "[B") .byte ∈ gvL := by decide +kernel
theorem gv_le : ∀ i, i < 13 → Cond.eq (.length (.field (tmS i) "java/lang/String" "value" "[B")) (.int (Int32.ofNat (strN.getD i 0))) ∈ gvL := by decide +kernel
theorem gv_el : ∀ i, i < 13 → ∀ j, j < strN.getD i 0 → Cond.eq (.elem (.field (tmS i) "java/lang/String" "value" "[B") (.int (Int32.ofNat j))) (.int ((strB.getD i []).getD j 0)) ∈ gvL := by decide +kernel
theorem gv_mo : ∀ i, i < 13 → Cond.eq (tmS i) (tmM i) ∈ gvL := by decide +kernel
theorem gv_sa : ∀ k, k < 6 → Cond.arrayOf (tmT k) .int ∈ gvL := by decide +kernel
theorem gv_sl : ∀ k, k < 6 → Cond.eq (.length (tmT k)) (.int (Int32.ofNat (stA.getD k ("", "", [])).2.2.length)) ∈ gvL := by decide +kernel
theorem gv_se : ∀ k, k < 6 → ∀ j, j < (stA.getD k ("", "", [])).2.2.length → Cond.eq (.elem (tmT k) (.int (Int32.ofNat j))) (.int ((stA.getD k ("", "", [])).2.2.getD j 0)) ∈ gvL := by decide +kernel
theorem tb_ls : ∀ k, k < 6 → Cond.laysStatic (stA.getD k ("", "", [])).1 (stA.getD k ("", "", [])).2.1 "[I" ∈ lw_tbl := by decide +kernel
theorem tb_in : ∀ k, k < 6 → Cond.initialized (stA.getD k ("", "", [])).1 ∈ lw_tbl := by decide +kernel
theorem tb_sr : ∀ q ∈ strR, Cond.stringRef q.1 q.2.1 q.2.2.1 ∈ lw_tbl := by decide +kernel
theorem tb_st : ∀ q ∈ strR, q.2.2.2 < 13 ∧ (Term.string q.1 q.2.1 = tmS q.2.2.2 ∨ Term.string q.1 q.2.1 = tmM q.2.2.2) := by
  intro q hq
  have h : strR.all (fun q => decide (q.2.2.2 < 13) && ((decide (q.1 = "PlyStacker$Reader") && decide (q.2.1 = [98, 103, 80, 89, 125, 131, 133, 135, 137, 168, 170, 172, 174].getD q.2.2.2 0)) || (decide (q.1 = "PlyStackerModel") && decide (q.2.1 = [143, 145, 151, 153, 158, 160, 162, 164, 166, 168, 170, 172, 174].getD q.2.2.2 0)))) = true := by decide +kernel
  have h1 := List.all_eq_true.mp h q hq
  simp only [Bool.and_eq_true, Bool.or_eq_true, decide_eq_true_eq] at h1
  refine ⟨h1.1, ?_⟩
  rcases h1.2 with ⟨a, b⟩ | ⟨a, b⟩
  · exact Or.inl (by rw [a, b]; rfl)
  · exact Or.inr (by rw [a, b]; rfl)
theorem tb_nf : ∀ q ∈ nestF, Cond.fieldLinkNest q.1 q.2.1 q.2.2.1 q.2.2.2.1 q.2.2.2.2.1 q.2.2.2.2.2 ∈ lw_tbl := by decide +kernel
theorem tb_nm : ∀ q ∈ nestM, Cond.methodLinkNest q.1 q.2.1 q.2.2.1 q.2.2.2 ∈ lw_tbl := by decide +kernel
theorem str_un : ∀ i, i < 13 → ∀ j, j < 13 → i ≠ j → strN.getD i 0 ≠ strN.getD j 0 ∨ ∃ k, k < 5 ∧ k < strN.getD i 0 ∧ k < strN.getD j 0 ∧ (strB.getD i []).getD k 0 ≠ (strB.getD j []).getD k 0 := by decide +kernel
theorem strN_5 : ∀ i, i < 13 → strN.getD i 0 ≤ 5 := by decide
theorem ev_len {args : Array Value} {s : State} {t u : Term} (h : t.eval args s none [] s = u.eval args s none [] s) (C n d : String) : (Term.length (.field t C n d)).eval args s none [] s = (Term.length (.field u C n d)).eval args s none [] s := by
  simp only [Term.eval, h]
theorem ev_elem {args : Array Value} {s : State} {t u v : Term} (h : t.eval args s none [] s = u.eval args s none [] s) (C n d : String) : (Term.elem (.field t C n d) v).eval args s none [] s = (Term.elem (.field u C n d) v).eval args s none [] s := by
  simp only [Term.eval, h]
theorem kn_all {s : State} {args : Array Value} (hts : ∀ w ∈ lw_tbl, w.before args s = true) : ∀ k : Nat, ∃ z : ClassId × (Nat → Nat), ∀ q : vw_C, vwCl[k]? = some q → u_Kn s q.1 q.2.1 q.2.2 z.1 z.2 := by
  have one : ∀ (C : String) (T : u_T) (N : Nat), (∀ w ∈ u_ws C T N, w ∈ Tw) → Cond.instantiable C N ∈ Tw → ∃ z : ClassId × (Nat → Nat), u_Kn s C T N z.1 z.2 := fun C T N h1 h2 => by
    obtain ⟨a, b, h⟩ := u_known (C := C) (T := T) (N := N) (n := N) hts (fun w hw => tw_lw (h1 w hw)) (hts _ (tw_lw h2))
    exact ⟨(a, b), h⟩
  intro k
  match k with
  | 0 => obtain ⟨z, h⟩ := one RX0 TX0 7 uX0 knX0; exact ⟨z, fun q hq => by cases hq; exact h⟩
  | 1 => obtain ⟨z, h⟩ := one RX1 TX1 9 uX1 knX1; exact ⟨z, fun q hq => by cases hq; exact h⟩
  | 2 => obtain ⟨z, h⟩ := one RX2 TX2 9 uX2 knX2; exact ⟨z, fun q hq => by cases hq; exact h⟩
  | 3 => obtain ⟨z, h⟩ := one RX4 TX4 3 uX4 knX4; exact ⟨z, fun q hq => by cases hq; exact h⟩
  | 4 => obtain ⟨z, h⟩ := one RX5 TX5 2 uX5 knX5; exact ⟨z, fun q hq => by cases hq; exact h⟩
  | 5 => obtain ⟨z, h⟩ := one RX6 TX6 3 uX6 knX6; exact ⟨z, fun q hq => by cases hq; exact h⟩
  | 6 => obtain ⟨z, h⟩ := one RX7 TX7 7 uX7 knX7; exact ⟨z, fun q hq => by cases hq; exact h⟩
  | 7 => obtain ⟨z, h⟩ := one RX8 TX8 36 uX8 knX8; exact ⟨z, fun q hq => by cases hq; exact h⟩
  | k + 8 => exact ⟨(0, fun _ => 0), fun q hq => by simp [vwCl] at hq⟩
theorem ge_start {p : Program} {s : State} {m : MethodId} {meth : Method} {c : Code} {b L : Nat} {xs : Nat → Int32} (C0 : lw_At p s m meth c b L xs) : ∃ g : GT, g.1 = s.heap.size ∧ GE g s s.heap := by
  obtain ⟨hx, hb, hr, hml, hown, hts, hX, hbl, hlocks, hgv⟩ := C0
  have hs := flat_of_before _ hgv
  have hA : ∀ a : Nat, a < s.heap.size → ¬ s.heap.size ≤ a := fun a h => Nat.not_le.mpr h
  obtain ⟨D, hD⟩ := Classical.axiomOfChoice (kn_all hts)
  obtain ⟨c0, k0, m0, f0, g0, i0⟩ := Cond.arrayClass_spec (type := .int) (hts _ (show Cond.arrayClass .int ∈ lw_tbl by decide +kernel))
  obtain ⟨c1, k1, m1, f1, g1, i1⟩ := Cond.arrayClass_spec (type := .long) (hts _ (show Cond.arrayClass .long ∈ lw_tbl by decide +kernel))
  obtain ⟨c2, k2, m2, f2, g2, i2⟩ := Cond.arrayClass_spec (type := .byte) (hts _ (show Cond.arrayClass .byte ∈ lw_tbl by decide +kernel))
  obtain ⟨c3, k3, m3, f3, g3, i3⟩ := Cond.arrayClass_spec (type := .boolean) (hts _ (show Cond.arrayClass .boolean ∈ lw_tbl by decide +kernel))
  have hao := hts _ (show Cond.arrayOver (.object "PlyStacker$Plate") ∈ lw_tbl by decide +kernel)
  obtain ⟨m4, c4, k4, p4, -, g4, i4, f4⟩ := Cond.arrayOver_spec hao
  have sT : ∀ k : Nat, ∃ t : Nat, k < 6 → va_Z (stA.getD k ("", "", [])).1 (stA.getD k ("", "", [])).2.1 "[I" (.ref t) (fun a => s.heap.size ≤ a) s s.heap ∧ va_T .int t (stA.getD k ("", "", [])).2.2.length (fun j => .int ((stA.getD k ("", "", [])).2.2.getD j 0)) (fun a => s.heap.size ≤ a) s s.heap := fun k => by
    by_cases hk : k < 6
    · have l5 : (stA.getD k ("", "", [])).2.2.length ≤ 5 := (show ∀ k, k < 6 → (stA.getD k ("", "", [])).2.2.length ≤ 5 by decide) k hk
      obtain ⟨t, ht, hT⟩ := va_Tof (tm := tmT k) (ty := .int) (N := (stA.getD k ("", "", [])).2.2.length) (f := fun j => .int ((stA.getD k ("", "", [])).2.2.getD j 0)) (A := fun a => s.heap.size ≤ a) (by omega) (hs _ (gv_sa k hk)) (va_eqt (hs _ (gv_sl k hk))) (fun j hj => va_eqt (hs _ (gv_se k hk j hj))) hA
      exact ⟨t, fun _ => ⟨va_Zref (hts _ (tb_ls k hk)) (hts _ (tb_in k hk)) ht hA, hT⟩⟩
    · exact ⟨0, fun h => absurd h hk⟩
  obtain ⟨sA, hsA⟩ := Classical.axiomOfChoice sT
  obtain ⟨adK, adV, hSt, hEv⟩ := vk_Sof (args := #[Value.ref b]) (s := s) (N := 13) (tm := tmS) (len := strN) (byt := strB) (A := fun a => s.heap.size ≤ a) (fun i hi => by have := strN_5 i hi; omega) (fun i hi => hs _ (gv_ex i hi)) (fun i hi => hs _ (gv_co i hi)) (fun i hi => hs _ (gv_ar i hi)) (fun i hi => hs _ (gv_le i hi)) (fun i hi j hj => hs _ (gv_el i hi j hj)) (fun i j hi hj hij => by
    obtain ⟨a, -, -, -, qa, -⟩ := Cond.exactly_spec (args := #[Value.ref b]) (first := s) (o := none) (s := s) (idx := []) (t := tmS i) (cls := "java/lang/String") (hs _ (gv_ex i hi))
    obtain ⟨a', -, -, -, qb, -⟩ := Cond.exactly_spec (args := #[Value.ref b]) (first := s) (o := none) (s := s) (idx := []) (t := tmS j) (cls := "java/lang/String") (hs _ (gv_ex j hj))
    by_cases e : a = a'
    · exfalso
      have ee : (tmS i).eval #[Value.ref b] s none [] s = (tmS j).eval #[Value.ref b] s none [] s := by rw [qa, qb, e]
      have li := va_eqt (hs _ (gv_le i hi))
      have lj := va_eqt (hs _ (gv_le j hj))
      rw [ev_len ee, lj] at li
      have li' : Int32.ofNat (strN.getD j 0) = Int32.ofNat (strN.getD i 0) := by injection li with z; injection z
      have b1 := strN_5 i hi
      have b2 := strN_5 j hj
      have li2 : strN.getD j 0 = strN.getD i 0 := (nI_inj (by omega) (by omega)).mp li'
      rcases str_un i hi j hj hij with z | ⟨k, -, z1, z2, z3⟩
      · exact z li2.symm
      · have ei := va_eqt (hs _ (gv_el i hi k z1))
        have ej := va_eqt (hs _ (gv_el j hj k z2))
        rw [ev_elem ee, ej] at ei
        exact z3 (by injection ei with z; injection z with z; exact z.symm)
    · left
      have e' : ¬ a' = a := fun z => e z.symm
      simp [Cond.before, Cond.holds, Cond.value, qa, qb, e]) hA
  let ct : Nat → ClassId := fun k => if k = 0 then c0 else if k = 1 then c1 else if k = 2 then c2 else if k = 3 then c3 else c4
  refine ⟨(s.heap.size, (fun k => (D k).1, fun k => (D k).2), ct, sA, adK, adV), rfl, ⟨fun k q hq => hD k q hq, fun k q hq => ?_⟩, fun q hq => va_Nw.of rfl (hts _ (tb_nf q hq)), fun q hq => va_Nw.of rfl (hts _ (tb_nm q hq)), fun k hk => ?_, fun k q hq => ?_, hSt, fun q hq => ?_, ?_, ?_, va_AO.of hao⟩
  · match k, hq with
    | 0, hq => cases hq; exact ⟨fun N z => ⟨(fun k h => by cases h), k0, g0, m0, i0⟩, f0⟩
    | 1, hq => cases hq; exact ⟨fun N z => ⟨(fun k h => by cases h), k1, g1, m1, i1⟩, f1⟩
    | 2, hq => cases hq; exact ⟨fun N z => ⟨(fun k h => by cases h), k2, g2, m2, i2⟩, f2⟩
    | 3, hq => cases hq; exact ⟨fun N z => ⟨(fun k h => by cases h), k3, g3, m3, i3⟩, f3⟩
    | 4, hq => cases hq; exact ⟨fun N z => ⟨(fun k h => by cases h), k4, g4, m4, i4⟩, k4, m4, g4, i4, p4, f4⟩
    | k + 5, hq => simp [TYg] at hq
  · rcases (show k = 0 ∨ k = 1 ∨ k = 2 ∨ k = 3 by omega) with rfl | rfl | rfl | rfl
    · exact f0
    · exact f1
    · exact f2
    · exact f3
  · have hk : k < 6 := (List.getElem?_eq_some_iff.mp hq).1
    have e : stA.getD k ("", "", []) = q := by rw [List.getD_eq_getElem?_getD, hq]; rfl
    have := hsA k hk
    rw [e] at this
    exact this
  · obtain ⟨h1, h2⟩ := tb_st q hq
    refine vk_R.of (hts _ (tb_sr q hq)) ?_
    rcases h2 with h2 | h2
    · rw [h2]; exact hEv _ h1
    · rw [h2]; exact eqRf (hs _ (gv_mo _ h1)) (hEv _ h1)
  · exact va_Zof (hts _ (show Cond.laysStatic "java/lang/String" "COMPACT_STRINGS" "Z" ∈ lw_tbl by decide +kernel)) (hts _ (show Cond.initialized "java/lang/String" ∈ lw_tbl by decide +kernel)) (va_eqt (hs _ (show Cond.eq (.static "java/lang/String" "COMPACT_STRINGS" "Z") (.int 1) ∈ gvL by decide +kernel))) hA
  · exact va_Zqof (hts _ (show Cond.laysStatic "jdk/internal/util/Preconditions" "SIOOBE_FORMATTER" "Ljava/util/function/BiFunction;" ∈ lw_tbl by decide +kernel)) (hts _ (show Cond.initialized "jdk/internal/util/Preconditions" ∈ lw_tbl by decide +kernel)) (hs _ (show Cond.isRef (.static "jdk/internal/util/Preconditions" "SIOOBE_FORMATTER" "Ljava/util/function/BiFunction;") ∈ gvL by decide +kernel)) hA
