-- X4_take
theorem dX4_take_0 : decode cX4_take 0 = .ok (.iconst 0, 1) := by decide +kernel
theorem dX4_take_1 : decode cX4_take 1 = .ok (.istore 4, 2) := by decide +kernel
theorem dX4_take_3 : decode cX4_take 3 = .ok (.iload 4, 2) := by decide +kernel
theorem dX4_take_5 : decode cX4_take 5 = .ok (.bipush 9, 2) := by decide +kernel
theorem dX4_take_7 : decode cX4_take 7 = .ok (.if_icmp .ge 24, 3) := by decide +kernel
theorem dX4_take_10 : decode cX4_take 10 = .ok (.aload_n 0, 1) := by decide +kernel
theorem dX4_take_11 : decode cX4_take 11 = .ok (.getfield 9, 3) := by decide +kernel
theorem dX4_take_14 : decode cX4_take 14 = .ok (.iload 4, 2) := by decide +kernel
theorem dX4_take_16 : decode cX4_take 16 = .ok (.aload_n 1, 1) := by decide +kernel
theorem dX4_take_17 : decode cX4_take 17 = .ok (.iload_n 3, 1) := by decide +kernel
theorem dX4_take_18 : decode cX4_take 18 = .ok (.iload_n 2, 1) := by decide +kernel
theorem dX4_take_19 : decode cX4_take 19 = .ok (.iload 4, 2) := by decide +kernel
theorem dX4_take_21 : decode cX4_take 21 = .ok (.invokevirtual 18, 3) := by decide +kernel
theorem dX4_take_24 : decode cX4_take 24 = .ok (.lastore, 1) := by decide +kernel
theorem dX4_take_25 : decode cX4_take 25 = .ok (.iinc 4 1, 3) := by decide +kernel
theorem dX4_take_28 : decode cX4_take 28 = .ok (.goto (-25), 3) := by decide +kernel
theorem dX4_take_31 : decode cX4_take 31 = .ok (.aload_n 0, 1) := by decide +kernel
theorem dX4_take_32 : decode cX4_take 32 = .ok (.aload_n 0, 1) := by decide +kernel
theorem dX4_take_33 : decode cX4_take 33 = .ok (.getfield 9, 3) := by decide +kernel
theorem dX4_take_36 : decode cX4_take 36 = .ok (.iconst 0, 1) := by decide +kernel
theorem dX4_take_37 : decode cX4_take 37 = .ok (.laload, 1) := by decide +kernel
theorem dX4_take_38 : decode cX4_take 38 = .ok (.aload_n 0, 1) := by decide +kernel
theorem dX4_take_39 : decode cX4_take 39 = .ok (.iconst 0, 1) := by decide +kernel
theorem dX4_take_40 : decode cX4_take 40 = .ok (.iconst 0, 1) := by decide +kernel
theorem dX4_take_41 : decode cX4_take 41 = .ok (.invokevirtual 24, 3) := by decide +kernel
theorem dX4_take_44 : decode cX4_take 44 = .ok (.lmul, 1) := by decide +kernel
theorem dX4_take_45 : decode cX4_take 45 = .ok (.aload_n 0, 1) := by decide +kernel
theorem dX4_take_46 : decode cX4_take 46 = .ok (.getfield 9, 3) := by decide +kernel
theorem dX4_take_49 : decode cX4_take 49 = .ok (.iconst 1, 1) := by decide +kernel
theorem dX4_take_50 : decode cX4_take 50 = .ok (.laload, 1) := by decide +kernel
theorem dX4_take_51 : decode cX4_take 51 = .ok (.aload_n 0, 1) := by decide +kernel
theorem dX4_take_52 : decode cX4_take 52 = .ok (.iconst 0, 1) := by decide +kernel
theorem dX4_take_53 : decode cX4_take 53 = .ok (.iconst 1, 1) := by decide +kernel
theorem dX4_take_54 : decode cX4_take 54 = .ok (.invokevirtual 24, 3) := by decide +kernel
theorem dX4_take_57 : decode cX4_take 57 = .ok (.lmul, 1) := by decide +kernel
theorem dX4_take_58 : decode cX4_take 58 = .ok (.ladd, 1) := by decide +kernel
theorem dX4_take_59 : decode cX4_take 59 = .ok (.aload_n 0, 1) := by decide +kernel
theorem dX4_take_60 : decode cX4_take 60 = .ok (.getfield 9, 3) := by decide +kernel
theorem dX4_take_63 : decode cX4_take 63 = .ok (.iconst 2, 1) := by decide +kernel
theorem dX4_take_64 : decode cX4_take 64 = .ok (.laload, 1) := by decide +kernel
theorem dX4_take_65 : decode cX4_take 65 = .ok (.aload_n 0, 1) := by decide +kernel
theorem dX4_take_66 : decode cX4_take 66 = .ok (.iconst 0, 1) := by decide +kernel
theorem dX4_take_67 : decode cX4_take 67 = .ok (.iconst 2, 1) := by decide +kernel
theorem dX4_take_68 : decode cX4_take 68 = .ok (.invokevirtual 24, 3) := by decide +kernel
theorem dX4_take_71 : decode cX4_take 71 = .ok (.lmul, 1) := by decide +kernel
theorem dX4_take_72 : decode cX4_take 72 = .ok (.ladd, 1) := by decide +kernel
theorem dX4_take_73 : decode cX4_take 73 = .ok (.putfield 28, 3) := by decide +kernel
theorem dX4_take_76 : decode cX4_take 76 = .ok (.return_, 1) := by decide +kernel
noncomputable def fX4_take_31  (t_cells : Nat → Int64) (t_det : Int64) : Option ((Nat → Int64) × Int64) := (fX4_cofactor t_cells 0 0).bind fun r5 => (fX4_cofactor t_cells 0 1).bind fun r7 => (fX4_cofactor t_cells 0 2).bind fun r9 => some (t_cells, (((t_cells 0) * r5) + ((t_cells 1) * r7)) + ((t_cells 2) * r9))
noncomputable def fX4_take_3  : Nat → (Nat → Int64) → Int64 → (Nat → Int32) → (Nat → Int32) → (Nat → Int32) → Int32 → Int32 → Int32 → Int32 → Option ((Nat → Int64) × Int64)
  | 0, _, _, _, _, _, _, _, _, _ => none
  | n + 1, t_cells, t_det, p1_cells, p1_rows, p1_sizes, p1_acts, v2, v3, v4 => (if 9 ≤ v4 then fX4_take_31 t_cells t_det else (fX1_total p1_cells p1_rows p1_sizes p1_acts v3 v2 v4).bind fun r2 => chk 9 v4 (fX4_take_3 n (vp_updL t_cells v4.toNatClampNeg r2) t_det p1_cells p1_rows p1_sizes p1_acts v2 v3 (v4 + 1)))
theorem fX4_take_3_z  (t_cells : Nat → Int64) (t_det : Int64) (p1_cells : Nat → Int32) (p1_rows : Nat → Int32) (p1_sizes : Nat → Int32) (p1_acts : Int32) (v2 : Int32) (v3 : Int32) (v4 : Int32) : fX4_take_3  0 t_cells t_det p1_cells p1_rows p1_sizes p1_acts v2 v3 v4 = none := rfl
theorem fX4_take_3_s  (n : Nat) (t_cells : Nat → Int64) (t_det : Int64) (p1_cells : Nat → Int32) (p1_rows : Nat → Int32) (p1_sizes : Nat → Int32) (p1_acts : Int32) (v2 : Int32) (v3 : Int32) (v4 : Int32) : fX4_take_3  (n + 1) t_cells t_det p1_cells p1_rows p1_sizes p1_acts v2 v3 v4 = (if 9 ≤ v4 then fX4_take_31 t_cells t_det else (fX1_total p1_cells p1_rows p1_sizes p1_acts v3 v2 v4).bind fun r2 => chk 9 v4 (fX4_take_3 n (vp_updL t_cells v4.toNatClampNeg r2) t_det p1_cells p1_rows p1_sizes p1_acts v2 v3 (v4 + 1))) := rfl
noncomputable def fX4_take  (t_cells : Nat → Int64) (t_det : Int64) (p1_cells : Nat → Int32) (p1_rows : Nat → Int32) (p1_sizes : Nat → Int32) (p1_acts : Int32) (v2 : Int32) (v3 : Int32) : Option ((Nat → Int64) × Int64) := fX4_take_3 FU t_cells t_det p1_cells p1_rows p1_sizes p1_acts v2 v3 0
set_option maxHeartbeats 4000000 in
set_option maxRecDepth 100000 in
theorem ctX4_take (l : Launch) (g : GT) (sz : Nat) (a_t : Nat → Nat) (a_p1 : Nat → Nat) (t_det : Int64) (t_cells : Nat → Int64) (p1_told : Int32) (p1_lines : Int32) (p1_kinds : Int32) (p1_acts : Int32) (p1_cells : Nat → Int32) (p1_rows : Nat → Int32) (p1_sizes : Nat → Int32) (v2 : Int32) (v3 : Int32) (o_t_cells : Nat → Int64) (o_t_det : Int64) (h : fX4_take t_cells t_det p1_cells p1_rows p1_sizes p1_acts v2 v3 = some (o_t_cells, o_t_det)) : Met l yX4_take (Cond.code yX4_take cX4_take 5 none :: Tw) ⟨3, 0, 0, 73⟩ (va_Pc [.ref ((a_t 0)), .ref ((a_p1 0)), .int v2, .int v3] (rwB g [((a_t 0), .inr (3, [.ref (a_t 1), .ref (a_t 2), .long t_det])), ((a_t 1), .inl (g.2.2.1 1, 9, .inr (.inl t_cells))), ((a_p1 0), .inr (1, [.ref (a_p1 1), .ref (a_p1 2), .ref (a_p1 3), .ref (a_p1 4), .ref (a_p1 5), .int p1_told, .int p1_lines, .int p1_kinds, .int p1_acts])), ((a_p1 2), .inl (g.2.2.1 0, 144, .inl p1_cells)), ((a_p1 3), .inl (g.2.2.1 0, 31, .inl p1_rows)), ((a_p1 4), .inl (g.2.2.1 0, 31, .inl p1_sizes))] sz)) (va_Qv (fun (_ : Nat → Nat) => True) (fun u => rwE g (va_A [((a_t 0), .inr (3, [.ref (a_t 1), .ref (a_t 2), .long t_det])), ((a_t 1), .inl (g.2.2.1 1, 9, .inr (.inl t_cells))), ((a_p1 0), .inr (1, [.ref (a_p1 1), .ref (a_p1 2), .ref (a_p1 3), .ref (a_p1 4), .ref (a_p1 5), .int p1_told, .int p1_lines, .int p1_kinds, .int p1_acts])), ((a_p1 2), .inl (g.2.2.1 0, 144, .inl p1_cells)), ((a_p1 3), .inl (g.2.2.1 0, 31, .inl p1_rows)), ((a_p1 4), .inl (g.2.2.1 0, 31, .inl p1_sizes))] sz) [((a_t 0), .inr (3, [.ref (a_t 1), .ref (a_t 2), .long o_t_det])), ((a_t 1), .inl (g.2.2.1 1, 9, .inr (.inl o_t_cells))), ((a_p1 0), .inr (1, [.ref (a_p1 1), .ref (a_p1 2), .ref (a_p1 3), .ref (a_p1 4), .ref (a_p1 5), .int p1_told, .int p1_lines, .int p1_kinds, .int p1_acts])), ((a_p1 2), .inl (g.2.2.1 0, 144, .inl p1_cells)), ((a_p1 3), .inl (g.2.2.1 0, 31, .inl p1_rows)), ((a_p1 4), .inl (g.2.2.1 0, 31, .inl p1_sizes))]) (va_A [((a_t 0), .inr (3, [.ref (a_t 1), .ref (a_t 2), .long t_det])), ((a_t 1), .inl (g.2.2.1 1, 9, .inr (.inl t_cells))), ((a_p1 0), .inr (1, [.ref (a_p1 1), .ref (a_p1 2), .ref (a_p1 3), .ref (a_p1 4), .ref (a_p1 5), .int p1_told, .int p1_lines, .int p1_kinds, .int p1_acts])), ((a_p1 2), .inl (g.2.2.1 0, 144, .inl p1_cells)), ((a_p1 3), .inl (g.2.2.1 0, 31, .inl p1_rows)), ((a_p1 4), .inl (g.2.2.1 0, 31, .inl p1_sizes))] sz)) 0 0 (va_A [((a_t 0), .inr (3, [.ref (a_t 1), .ref (a_t 2), .long t_det])), ((a_t 1), .inl (g.2.2.1 1, 9, .inr (.inl t_cells))), ((a_p1 0), .inr (1, [.ref (a_p1 1), .ref (a_p1 2), .ref (a_p1 3), .ref (a_p1 4), .ref (a_p1 5), .int p1_told, .int p1_lines, .int p1_kinds, .int p1_acts])), ((a_p1 2), .inl (g.2.2.1 0, 144, .inl p1_cells)), ((a_p1 3), .inl (g.2.2.1 0, 31, .inl p1_rows)), ((a_p1 4), .inl (g.2.2.1 0, 31, .inl p1_sizes))] sz) := by
  refine rw_metv (by decide) (Nat.le_of_ble_eq_true rfl) (lv0 := [(0, .ref ((a_t 0))), (1, .ref ((a_p1 0))), (2, .int v2), (3, .int v3)]) rfl ?_
  intro p e s m args below meth c ls Q A cx hret hG hAb hb0 hA hP hD hl
  have hx := cx.1
  have hb := cx.2.1
  have hG0 := hG
  have hGk : ∀ {H : Heap} {locs : List Loc}, va_S A s.heap H locs → GE g s H := fun hS => hG0.keptS hAb hS
  have hSb : ∀ {H : Heap} {locs : List Loc}, va_S A s.heap H locs → va_S (fun a => g.1 ≤ a) s.heap H locs := fun hS => ⟨hS.1, fun q h1 h2 => hS.2.1 q h1 (fun z => h2 (hAb q z)), fun l hl => hAb _ (hS.2.2 l hl)⟩
  have hS : va_S A s.heap s.heap [] := va_S.rf
  have hrt : ∀ (u : Nat → Nat) (pc : Nat) (ls : Array Slot) (x_t_cells : Nat → Int64) (x_t_det : Int64) (H : Heap) (locs : List Loc), decode cX4_take pc = .ok (.return_, 1) → some (x_t_cells, x_t_det) = some (o_t_cells, o_t_det) → va_P g.2.1 vwCl [((a_t 0), .inr (3, [.ref (a_t 1), .ref (a_t 2), .long x_t_det])), ((a_t 1), .inl (g.2.2.1 1, 9, .inr (.inl x_t_cells))), ((a_p1 0), .inr (1, [.ref (a_p1 1), .ref (a_p1 2), .ref (a_p1 3), .ref (a_p1 4), .ref (a_p1 5), .int p1_told, .int p1_lines, .int p1_kinds, .int p1_acts])), ((a_p1 2), .inl (g.2.2.1 0, 144, .inl p1_cells)), ((a_p1 3), .inl (g.2.2.1 0, 31, .inl p1_rows)), ((a_p1 4), .inl (g.2.2.1 0, 31, .inl p1_sizes))] H → va_D A [((a_t 0), .inr (3, [.ref (a_t 1), .ref (a_t 2), .long x_t_det])), ((a_t 1), .inl (g.2.2.1 1, 9, .inr (.inl x_t_cells))), ((a_p1 0), .inr (1, [.ref (a_p1 1), .ref (a_p1 2), .ref (a_p1 3), .ref (a_p1 4), .ref (a_p1 5), .int p1_told, .int p1_lines, .int p1_kinds, .int p1_acts])), ((a_p1 2), .inl (g.2.2.1 0, 144, .inl p1_cells)), ((a_p1 3), .inl (g.2.2.1 0, 31, .inl p1_rows)), ((a_p1 4), .inl (g.2.2.1 0, 31, .inl p1_sizes))] → va_S A s.heap H locs → W p l e ⟨3, 0, 0, 73⟩ s m args below meth c H locs 0 0 Q (F0 m pc ls []) := by
    intro u pc ls x_t_cells x_t_det H locs hd h hP hD hS
    cases h
    exact hret u _ _ _ _ hd hP hD hS
  have w31 : ∀ (t_cells : Nat → Int64) (t_det : Int64) (H : Heap) (locs : List Loc), va_P g.2.1 vwCl [((a_t 0), .inr (3, [.ref (a_t 1), .ref (a_t 2), .long t_det])), ((a_t 1), .inl (g.2.2.1 1, 9, .inr (.inl t_cells))), ((a_p1 0), .inr (1, [.ref (a_p1 1), .ref (a_p1 2), .ref (a_p1 3), .ref (a_p1 4), .ref (a_p1 5), .int p1_told, .int p1_lines, .int p1_kinds, .int p1_acts])), ((a_p1 2), .inl (g.2.2.1 0, 144, .inl p1_cells)), ((a_p1 3), .inl (g.2.2.1 0, 31, .inl p1_rows)), ((a_p1 4), .inl (g.2.2.1 0, 31, .inl p1_sizes))] H → va_D A [((a_t 0), .inr (3, [.ref (a_t 1), .ref (a_t 2), .long t_det])), ((a_t 1), .inl (g.2.2.1 1, 9, .inr (.inl t_cells))), ((a_p1 0), .inr (1, [.ref (a_p1 1), .ref (a_p1 2), .ref (a_p1 3), .ref (a_p1 4), .ref (a_p1 5), .int p1_told, .int p1_lines, .int p1_kinds, .int p1_acts])), ((a_p1 2), .inl (g.2.2.1 0, 144, .inl p1_cells)), ((a_p1 3), .inl (g.2.2.1 0, 31, .inl p1_rows)), ((a_p1 4), .inl (g.2.2.1 0, 31, .inl p1_sizes))] → va_S A s.heap H locs → ∀ (ls : Array Slot), lv_has ls 5 [(0, .ref ((a_t 0)))] → fX4_take_31  t_cells t_det = some (o_t_cells, o_t_det) → W p l e ⟨3, 0, 0, 73⟩ s m args below meth c H locs 0 0 Q (F0 m 31 ls []) := by
    intro t_cells t_det H locs hP hD hS ls hl h
    unfold fX4_take_31 at h
    have hG := hGk hS
    refine lv_aload_n hx hb dX4_take_31 rfl (lv_at hl 0 rfl) ?_
    refine lv_aload_n hx hb dX4_take_32 rfl (lv_at hl 0 rfl) ?_
    refine xa_get (C := RX4) (T := TX4) (N := 3) cx hG hP 0 rfl rfl uX4 0 (by decide) lf_X4_9 rfl dX4_take_33 ?_
    refine lv_iconst (v := 0) hx hb dX4_take_36 (by decide) ?_
    refine xa_lald (k := 0) cx hG hP 1 rfl (show ¬ ((0 : Int32) < 0 ∨ 9 ≤ (0 : Int32).toNatClampNeg) by decide) (by decide) dX4_take_37 ?_
    refine lv_aload_n hx hb dX4_take_38 rfl (lv_at hl 0 rfl) ?_
    refine lv_iconst (v := 0) hx hb dX4_take_39 (by decide) ?_
    refine lv_iconst (v := 0) hx hb dX4_take_40 (by decide) ?_
    obtain ⟨r5, hr6, h⟩ := bnd h
    refine ro_l (runV (As := [.int (0), .int (0)]) (rest := [.long (t_cells 0), .ref ((a_t 0))]) cx hl.1 (ctX4_cofactor l g a_t t_det t_cells (0) (0) r5 hr6) kmX4_cofactor kvX4_cofactor lm_X4_24 ⟨rfl, rfl⟩ ⟨Nat.le_of_ble_eq_true rfl, Nat.le_of_ble_eq_true rfl⟩ (roV (q0 := 0) (ci := 3) hG (hP.sub [0, 1] rfl) hP rfl rfl) rfl rfl (Nat.le_of_ble_eq_true rfl) dX4_take_41 ⟨Nat.le_of_ble_eq_true rfl, Nat.le_of_ble_eq_true rfl⟩) ?_
    refine lv_lmul hx hb dX4_take_44 ?_
    refine lv_aload_n hx hb dX4_take_45 rfl (lv_at hl 0 rfl) ?_
    refine xa_get (C := RX4) (T := TX4) (N := 3) cx hG hP 0 rfl rfl uX4 0 (by decide) lf_X4_9 rfl dX4_take_46 ?_
    refine lv_iconst (v := 1) hx hb dX4_take_49 (by decide) ?_
    refine xa_lald (k := 1) cx hG hP 1 rfl (show ¬ ((1 : Int32) < 0 ∨ 9 ≤ (1 : Int32).toNatClampNeg) by decide) (by decide) dX4_take_50 ?_
    refine lv_aload_n hx hb dX4_take_51 rfl (lv_at hl 0 rfl) ?_
    refine lv_iconst (v := 0) hx hb dX4_take_52 (by decide) ?_
    refine lv_iconst (v := 1) hx hb dX4_take_53 (by decide) ?_
    obtain ⟨r7, hr8, h⟩ := bnd h
    refine ro_l (runV (As := [.int (0), .int (1)]) (rest := [.long (t_cells 1), .long ((t_cells 0) * r5), .ref ((a_t 0))]) cx hl.1 (ctX4_cofactor l g a_t t_det t_cells (0) (1) r7 hr8) kmX4_cofactor kvX4_cofactor lm_X4_24 ⟨rfl, rfl⟩ ⟨Nat.le_of_ble_eq_true rfl, Nat.le_of_ble_eq_true rfl⟩ (roV (q0 := 0) (ci := 3) hG (hP.sub [0, 1] rfl) hP rfl rfl) rfl rfl (Nat.le_of_ble_eq_true rfl) dX4_take_54 ⟨Nat.le_of_ble_eq_true rfl, Nat.le_of_ble_eq_true rfl⟩) ?_
    refine lv_lmul hx hb dX4_take_57 ?_
    refine lv_ladd hx hb dX4_take_58 ?_
    refine lv_aload_n hx hb dX4_take_59 rfl (lv_at hl 0 rfl) ?_
    refine xa_get (C := RX4) (T := TX4) (N := 3) cx hG hP 0 rfl rfl uX4 0 (by decide) lf_X4_9 rfl dX4_take_60 ?_
    refine lv_iconst (v := 2) hx hb dX4_take_63 (by decide) ?_
    refine xa_lald (k := 2) cx hG hP 1 rfl (show ¬ ((2 : Int32) < 0 ∨ 9 ≤ (2 : Int32).toNatClampNeg) by decide) (by decide) dX4_take_64 ?_
    refine lv_aload_n hx hb dX4_take_65 rfl (lv_at hl 0 rfl) ?_
    refine lv_iconst (v := 0) hx hb dX4_take_66 (by decide) ?_
    refine lv_iconst (v := 2) hx hb dX4_take_67 (by decide) ?_
    obtain ⟨r9, hr10, h⟩ := bnd h
    refine ro_l (runV (As := [.int (0), .int (2)]) (rest := [.long (t_cells 2), .long (((t_cells 0) * r5) + ((t_cells 1) * r7)), .ref ((a_t 0))]) cx hl.1 (ctX4_cofactor l g a_t t_det t_cells (0) (2) r9 hr10) kmX4_cofactor kvX4_cofactor lm_X4_24 ⟨rfl, rfl⟩ ⟨Nat.le_of_ble_eq_true rfl, Nat.le_of_ble_eq_true rfl⟩ (roV (q0 := 0) (ci := 3) hG (hP.sub [0, 1] rfl) hP rfl rfl) rfl rfl (Nat.le_of_ble_eq_true rfl) dX4_take_68 ⟨Nat.le_of_ble_eq_true rfl, Nat.le_of_ble_eq_true rfl⟩) ?_
    refine lv_lmul hx hb dX4_take_71 ?_
    refine lv_ladd hx hb dX4_take_72 ?_
    refine xw_put (C := RX4) (T := TX4) (N := 3) (ty := .long) (v := .long ((((t_cells 0) * r5) + ((t_cells 1) * r7)) + ((t_cells 2) * r9))) (ws' := [((a_t 0), .inr (3, [.ref (a_t 1), .ref (a_t 2), .long ((((t_cells 0) * r5) + ((t_cells 1) * r7)) + ((t_cells 2) * r9))])), ((a_t 1), .inl (g.2.2.1 1, 9, .inr (.inl t_cells))), ((a_p1 0), .inr (1, [.ref (a_p1 1), .ref (a_p1 2), .ref (a_p1 3), .ref (a_p1 4), .ref (a_p1 5), .int p1_told, .int p1_lines, .int p1_kinds, .int p1_acts])), ((a_p1 2), .inl (g.2.2.1 0, 144, .inl p1_cells)), ((a_p1 3), .inl (g.2.2.1 0, 31, .inl p1_rows)), ((a_p1 4), .inl (g.2.2.1 0, 31, .inl p1_sizes))]) cx hG hP hD hS 0 rfl rfl uX4 tyX4 tyX4_ok nmX4 2 (by decide) lf_X4_28 rfl (by decide +kernel) rfl rfl (Nat.le_of_ble_eq_true rfl) rfl dX4_take_73 (fun H locs hP hD hS => ?_)
    have hG := hGk hS
    exact hrt (fun _ => 0) _ _ t_cells ((((t_cells 0) * r5) + ((t_cells 1) * r7)) + ((t_cells 2) * r9)) _ _ dX4_take_76 h (hP.sub [0, 1, 2, 3, 4, 5] rfl) (hD.sub [0, 1, 2, 3, 4, 5] (by decide) rfl) hS
  have w3 : ∀ (n : Nat) (t_cells : Nat → Int64) (t_det : Int64) (v2 : Int32) (v3 : Int32) (v4 : Int32) (H : Heap) (locs : List Loc), va_P g.2.1 vwCl [((a_t 0), .inr (3, [.ref (a_t 1), .ref (a_t 2), .long t_det])), ((a_t 1), .inl (g.2.2.1 1, 9, .inr (.inl t_cells))), ((a_p1 0), .inr (1, [.ref (a_p1 1), .ref (a_p1 2), .ref (a_p1 3), .ref (a_p1 4), .ref (a_p1 5), .int p1_told, .int p1_lines, .int p1_kinds, .int p1_acts])), ((a_p1 2), .inl (g.2.2.1 0, 144, .inl p1_cells)), ((a_p1 3), .inl (g.2.2.1 0, 31, .inl p1_rows)), ((a_p1 4), .inl (g.2.2.1 0, 31, .inl p1_sizes))] H → va_D A [((a_t 0), .inr (3, [.ref (a_t 1), .ref (a_t 2), .long t_det])), ((a_t 1), .inl (g.2.2.1 1, 9, .inr (.inl t_cells))), ((a_p1 0), .inr (1, [.ref (a_p1 1), .ref (a_p1 2), .ref (a_p1 3), .ref (a_p1 4), .ref (a_p1 5), .int p1_told, .int p1_lines, .int p1_kinds, .int p1_acts])), ((a_p1 2), .inl (g.2.2.1 0, 144, .inl p1_cells)), ((a_p1 3), .inl (g.2.2.1 0, 31, .inl p1_rows)), ((a_p1 4), .inl (g.2.2.1 0, 31, .inl p1_sizes))] → va_S A s.heap H locs → ∀ (ls : Array Slot), lv_has ls 5 [(0, .ref ((a_t 0))), (1, .ref ((a_p1 0))), (2, .int v2), (3, .int v3), (4, .int v4)] → fX4_take_3  n t_cells t_det p1_cells p1_rows p1_sizes p1_acts v2 v3 v4 = some (o_t_cells, o_t_det) → W p l e ⟨3, 0, 0, 73⟩ s m args below meth c H locs 0 0 Q (F0 m 3 ls []) := by
    intro n
    induction n with
    | zero => intro t_cells t_det v2 v3 v4 H locs hP hD hS ls hl h; cases (fX4_take_3_z  t_cells t_det p1_cells p1_rows p1_sizes p1_acts v2 v3 v4).symm.trans h
    | succ n ih =>
    intro t_cells t_det v2 v3 v4 H locs hP hD hS ls hl h
    have h := (fX4_take_3_s  n t_cells t_det p1_cells p1_rows p1_sizes p1_acts v2 v3 v4).symm.trans h
    have hG := hGk hS
    refine lv_iload hx hb dX4_take_3 (lv_at hl 4 rfl) ?_
    refine lv_bipush (v := 9) hx hb dX4_take_5 (by decide) ?_
    refine lv_icmp_ge (tgt := 31) hx hb dX4_take_7 (by decide) (fun c1 => ?_) (fun c1 => ?_)
    · have h := itp c1 h
      exact w31 t_cells t_det _ _ hP hD hS _ (lv_sub hl [0] rfl) h
    · have h := itn c1 h
      refine lv_aload_n hx hb dX4_take_10 rfl (lv_at hl 0 rfl) ?_
      refine xa_get (C := RX4) (T := TX4) (N := 3) cx hG hP 0 rfl rfl uX4 0 (by decide) lf_X4_9 rfl dX4_take_11 ?_
      refine lv_iload hx hb dX4_take_14 (lv_at hl 4 rfl) ?_
      refine lv_aload_n hx hb dX4_take_16 rfl (lv_at hl 1 rfl) ?_
      refine lv_iload_n hx hb dX4_take_17 rfl (lv_at hl 3 rfl) ?_
      refine lv_iload_n hx hb dX4_take_18 rfl (lv_at hl 2 rfl) ?_
      refine lv_iload hx hb dX4_take_19 (lv_at hl 4 rfl) ?_
      obtain ⟨r2, hr3, h⟩ := bnd h
      refine ro_l (runVN (As := [.int v3, .int v2, .int v4]) (rest := [.int v4, .ref ((a_t 1))]) hG cx hl.1 (ctX1_total l g a_p1 p1_told p1_lines p1_kinds p1_acts p1_cells p1_rows p1_sizes v3 v2 v4 r2 hr3) kmX1_total kvX1_total nm_38 ⟨rfl, rfl⟩ ⟨Nat.le_of_ble_eq_true rfl, Nat.le_of_ble_eq_true rfl⟩ (roV (q0 := 2) (ci := 1) hG (hP.sub [2, 3, 4, 5] rfl) hP rfl rfl) rfl rfl (Nat.le_of_ble_eq_true rfl) dX4_take_21 ⟨Nat.le_of_ble_eq_true rfl, Nat.le_of_ble_eq_true rfl⟩) ?_
      obtain ⟨hi4, h⟩ := chk_out h
      refine xw_last (ws' := [((a_t 0), .inr (3, [.ref (a_t 1), .ref (a_t 2), .long t_det])), ((a_t 1), .inl (g.2.2.1 1, 9, .inr (.inl (vp_updL t_cells v4.toNatClampNeg r2)))), ((a_p1 0), .inr (1, [.ref (a_p1 1), .ref (a_p1 2), .ref (a_p1 3), .ref (a_p1 4), .ref (a_p1 5), .int p1_told, .int p1_lines, .int p1_kinds, .int p1_acts])), ((a_p1 2), .inl (g.2.2.1 0, 144, .inl p1_cells)), ((a_p1 3), .inl (g.2.2.1 0, 31, .inl p1_rows)), ((a_p1 4), .inl (g.2.2.1 0, 31, .inl p1_sizes))]) (k := v4.toNatClampNeg) cx hG hP hD hS 1 rfl hi4 rfl rfl dX4_take_24 (fun H locs hP hD hS => ?_)
      have hG := hGk hS
      refine lv_iinc (v := v4 + 1) (lv' := [(4, .int (v4 + 1)), (0, .ref ((a_t 0))), (1, .ref ((a_p1 0))), (2, .int v2), (3, .int v3)]) hx hb dX4_take_25 hl (k := 4) rfl rfl (by decide) rfl (fun ls hl => ?_)
      refine lv_goto (tgt := 3) hx hb dX4_take_28 (by decide) ?_
      exact ih (vp_updL t_cells v4.toNatClampNeg r2) t_det v2 v3 (v4 + 1) _ _ hP hD hS _ (lv_sub hl [1, 2, 3, 4, 0] rfl) h
  unfold fX4_take at h
  refine lv_iconst (v := 0) hx hb dX4_take_0 (by decide) ?_
  refine lv_istore (lv' := [(4, .int (0)), (0, .ref ((a_t 0))), (1, .ref ((a_p1 0))), (2, .int v2), (3, .int v3)]) hx hb dX4_take_1 hl (by decide) rfl (fun ls hl => ?_)
  exact w3 FU t_cells t_det v2 v3 0 _ _ hP hD hS _ (lv_sub hl [1, 2, 3, 4, 0] rfl) h
-- X4_solve
theorem dX4_solve_0 : decode cX4_solve 0 = .ok (.iconst 0, 1) := by decide +kernel
theorem dX4_solve_1 : decode cX4_solve 1 = .ok (.istore 4, 2) := by decide +kernel
theorem dX4_solve_3 : decode cX4_solve 3 = .ok (.iload 4, 2) := by decide +kernel
theorem dX4_solve_5 : decode cX4_solve 5 = .ok (.iconst 3, 1) := by decide +kernel
theorem dX4_solve_6 : decode cX4_solve 6 = .ok (.if_icmp .ge 52, 3) := by decide +kernel
theorem dX4_solve_9 : decode cX4_solve 9 = .ok (.aload_n 0, 1) := by decide +kernel
theorem dX4_solve_10 : decode cX4_solve 10 = .ok (.getfield 15, 3) := by decide +kernel
theorem dX4_solve_13 : decode cX4_solve 13 = .ok (.iload 4, 2) := by decide +kernel
theorem dX4_solve_15 : decode cX4_solve 15 = .ok (.ldc2_w 35, 3) := by decide +kernel
theorem dX4_solve_18 : decode cX4_solve 18 = .ok (.aload_n 0, 1) := by decide +kernel
theorem dX4_solve_19 : decode cX4_solve 19 = .ok (.iconst 0, 1) := by decide +kernel
theorem dX4_solve_20 : decode cX4_solve 20 = .ok (.iload 4, 2) := by decide +kernel
theorem dX4_solve_22 : decode cX4_solve 22 = .ok (.invokevirtual 24, 3) := by decide +kernel
theorem dX4_solve_25 : decode cX4_solve 25 = .ok (.iload_n 1, 1) := by decide +kernel
theorem dX4_solve_26 : decode cX4_solve 26 = .ok (.i2l, 1) := by decide +kernel
theorem dX4_solve_27 : decode cX4_solve 27 = .ok (.lmul, 1) := by decide +kernel
theorem dX4_solve_28 : decode cX4_solve 28 = .ok (.aload_n 0, 1) := by decide +kernel
theorem dX4_solve_29 : decode cX4_solve 29 = .ok (.iconst 1, 1) := by decide +kernel
theorem dX4_solve_30 : decode cX4_solve 30 = .ok (.iload 4, 2) := by decide +kernel
theorem dX4_solve_32 : decode cX4_solve 32 = .ok (.invokevirtual 24, 3) := by decide +kernel
theorem dX4_solve_35 : decode cX4_solve 35 = .ok (.iload_n 2, 1) := by decide +kernel
theorem dX4_solve_36 : decode cX4_solve 36 = .ok (.i2l, 1) := by decide +kernel
theorem dX4_solve_37 : decode cX4_solve 37 = .ok (.lmul, 1) := by decide +kernel
theorem dX4_solve_38 : decode cX4_solve 38 = .ok (.ladd, 1) := by decide +kernel
theorem dX4_solve_39 : decode cX4_solve 39 = .ok (.aload_n 0, 1) := by decide +kernel
theorem dX4_solve_40 : decode cX4_solve 40 = .ok (.iconst 2, 1) := by decide +kernel
theorem dX4_solve_41 : decode cX4_solve 41 = .ok (.iload 4, 2) := by decide +kernel
theorem dX4_solve_43 : decode cX4_solve 43 = .ok (.invokevirtual 24, 3) := by decide +kernel
theorem dX4_solve_46 : decode cX4_solve 46 = .ok (.iload_n 3, 1) := by decide +kernel
theorem dX4_solve_47 : decode cX4_solve 47 = .ok (.i2l, 1) := by decide +kernel
theorem dX4_solve_48 : decode cX4_solve 48 = .ok (.lmul, 1) := by decide +kernel
theorem dX4_solve_49 : decode cX4_solve 49 = .ok (.ladd, 1) := by decide +kernel
theorem dX4_solve_50 : decode cX4_solve 50 = .ok (.lmul, 1) := by decide +kernel
theorem dX4_solve_51 : decode cX4_solve 51 = .ok (.lastore, 1) := by decide +kernel
theorem dX4_solve_52 : decode cX4_solve 52 = .ok (.iinc 4 1, 3) := by decide +kernel
theorem dX4_solve_55 : decode cX4_solve 55 = .ok (.goto (-52), 3) := by decide +kernel
theorem dX4_solve_58 : decode cX4_solve 58 = .ok (.return_, 1) := by decide +kernel
noncomputable def fX4_solve_3  : Nat → (Nat → Int64) → (Nat → Int64) → Int32 → Int32 → Int32 → Int32 → Option ((Nat → Int64))
  | 0, _, _, _, _, _, _ => none
  | n + 1, t_cells, t_parts, v1, v2, v3, v4 => (if 3 ≤ v4 then some t_parts else (fX4_cofactor t_cells 0 v4).bind fun r2 => (fX4_cofactor t_cells 1 v4).bind fun r4 => (fX4_cofactor t_cells 2 v4).bind fun r6 => chk 3 v4 (fX4_solve_3 n t_cells (vp_updL t_parts v4.toNatClampNeg (2 * (((r2 * v1.toInt64) + (r4 * v2.toInt64)) + (r6 * v3.toInt64)))) v1 v2 v3 (v4 + 1)))
theorem fX4_solve_3_z  (t_cells : Nat → Int64) (t_parts : Nat → Int64) (v1 : Int32) (v2 : Int32) (v3 : Int32) (v4 : Int32) : fX4_solve_3  0 t_cells t_parts v1 v2 v3 v4 = none := rfl
theorem fX4_solve_3_s  (n : Nat) (t_cells : Nat → Int64) (t_parts : Nat → Int64) (v1 : Int32) (v2 : Int32) (v3 : Int32) (v4 : Int32) : fX4_solve_3  (n + 1) t_cells t_parts v1 v2 v3 v4 = (if 3 ≤ v4 then some t_parts else (fX4_cofactor t_cells 0 v4).bind fun r2 => (fX4_cofactor t_cells 1 v4).bind fun r4 => (fX4_cofactor t_cells 2 v4).bind fun r6 => chk 3 v4 (fX4_solve_3 n t_cells (vp_updL t_parts v4.toNatClampNeg (2 * (((r2 * v1.toInt64) + (r4 * v2.toInt64)) + (r6 * v3.toInt64)))) v1 v2 v3 (v4 + 1))) := rfl
noncomputable def fX4_solve  (t_cells : Nat → Int64) (t_parts : Nat → Int64) (v1 : Int32) (v2 : Int32) (v3 : Int32) : Option ((Nat → Int64)) := fX4_solve_3 FU t_cells t_parts v1 v2 v3 0
set_option maxHeartbeats 4000000 in
set_option maxRecDepth 100000 in
theorem ctX4_solve (l : Launch) (g : GT) (sz : Nat) (a_t : Nat → Nat) (t_det : Int64) (t_cells : Nat → Int64) (t_parts : Nat → Int64) (v1 : Int32) (v2 : Int32) (v3 : Int32) (o_t_parts : Nat → Int64) (h : fX4_solve t_cells t_parts v1 v2 v3 = some (o_t_parts)) : Met l yX4_solve (Cond.code yX4_solve cX4_solve 5 none :: Tw) ⟨2, 0, 0, 48⟩ (va_Pc [.ref ((a_t 0)), .int v1, .int v2, .int v3] (rwB g [((a_t 0), .inr (3, [.ref (a_t 1), .ref (a_t 2), .long t_det])), ((a_t 1), .inl (g.2.2.1 1, 9, .inr (.inl t_cells))), ((a_t 2), .inl (g.2.2.1 1, 3, .inr (.inl t_parts)))] sz)) (va_Qv (fun (_ : Nat → Nat) => True) (fun u => rwE g (va_A [((a_t 0), .inr (3, [.ref (a_t 1), .ref (a_t 2), .long t_det])), ((a_t 1), .inl (g.2.2.1 1, 9, .inr (.inl t_cells))), ((a_t 2), .inl (g.2.2.1 1, 3, .inr (.inl t_parts)))] sz) [((a_t 0), .inr (3, [.ref (a_t 1), .ref (a_t 2), .long t_det])), ((a_t 1), .inl (g.2.2.1 1, 9, .inr (.inl t_cells))), ((a_t 2), .inl (g.2.2.1 1, 3, .inr (.inl o_t_parts)))]) (va_A [((a_t 0), .inr (3, [.ref (a_t 1), .ref (a_t 2), .long t_det])), ((a_t 1), .inl (g.2.2.1 1, 9, .inr (.inl t_cells))), ((a_t 2), .inl (g.2.2.1 1, 3, .inr (.inl t_parts)))] sz)) 0 0 (va_A [((a_t 0), .inr (3, [.ref (a_t 1), .ref (a_t 2), .long t_det])), ((a_t 1), .inl (g.2.2.1 1, 9, .inr (.inl t_cells))), ((a_t 2), .inl (g.2.2.1 1, 3, .inr (.inl t_parts)))] sz) := by
  refine rw_metv (by decide) (Nat.le_of_ble_eq_true rfl) (lv0 := [(0, .ref ((a_t 0))), (1, .int v1), (2, .int v2), (3, .int v3)]) rfl ?_
  intro p e s m args below meth c ls Q A cx hret hG hAb hb0 hA hP hD hl
  have hx := cx.1
  have hb := cx.2.1
  have hG0 := hG
  have hGk : ∀ {H : Heap} {locs : List Loc}, va_S A s.heap H locs → GE g s H := fun hS => hG0.keptS hAb hS
  have hSb : ∀ {H : Heap} {locs : List Loc}, va_S A s.heap H locs → va_S (fun a => g.1 ≤ a) s.heap H locs := fun hS => ⟨hS.1, fun q h1 h2 => hS.2.1 q h1 (fun z => h2 (hAb q z)), fun l hl => hAb _ (hS.2.2 l hl)⟩
  have hS : va_S A s.heap s.heap [] := va_S.rf
  have hrt : ∀ (u : Nat → Nat) (pc : Nat) (ls : Array Slot) (x_t_parts : Nat → Int64) (H : Heap) (locs : List Loc), decode cX4_solve pc = .ok (.return_, 1) → some (x_t_parts) = some (o_t_parts) → va_P g.2.1 vwCl [((a_t 0), .inr (3, [.ref (a_t 1), .ref (a_t 2), .long t_det])), ((a_t 1), .inl (g.2.2.1 1, 9, .inr (.inl t_cells))), ((a_t 2), .inl (g.2.2.1 1, 3, .inr (.inl x_t_parts)))] H → va_D A [((a_t 0), .inr (3, [.ref (a_t 1), .ref (a_t 2), .long t_det])), ((a_t 1), .inl (g.2.2.1 1, 9, .inr (.inl t_cells))), ((a_t 2), .inl (g.2.2.1 1, 3, .inr (.inl x_t_parts)))] → va_S A s.heap H locs → W p l e ⟨2, 0, 0, 48⟩ s m args below meth c H locs 0 0 Q (F0 m pc ls []) := by
    intro u pc ls x_t_parts H locs hd h hP hD hS
    cases h
    exact hret u _ _ _ _ hd hP hD hS
  have w3 : ∀ (n : Nat) (t_parts : Nat → Int64) (v1 : Int32) (v2 : Int32) (v3 : Int32) (v4 : Int32) (H : Heap) (locs : List Loc), va_P g.2.1 vwCl [((a_t 0), .inr (3, [.ref (a_t 1), .ref (a_t 2), .long t_det])), ((a_t 1), .inl (g.2.2.1 1, 9, .inr (.inl t_cells))), ((a_t 2), .inl (g.2.2.1 1, 3, .inr (.inl t_parts)))] H → va_D A [((a_t 0), .inr (3, [.ref (a_t 1), .ref (a_t 2), .long t_det])), ((a_t 1), .inl (g.2.2.1 1, 9, .inr (.inl t_cells))), ((a_t 2), .inl (g.2.2.1 1, 3, .inr (.inl t_parts)))] → va_S A s.heap H locs → ∀ (ls : Array Slot), lv_has ls 5 [(0, .ref ((a_t 0))), (1, .int v1), (2, .int v2), (3, .int v3), (4, .int v4)] → fX4_solve_3  n t_cells t_parts v1 v2 v3 v4 = some (o_t_parts) → W p l e ⟨2, 0, 0, 48⟩ s m args below meth c H locs 0 0 Q (F0 m 3 ls []) := by
    intro n
    induction n with
    | zero => intro t_parts v1 v2 v3 v4 H locs hP hD hS ls hl h; cases (fX4_solve_3_z  t_cells t_parts v1 v2 v3 v4).symm.trans h
    | succ n ih =>
    intro t_parts v1 v2 v3 v4 H locs hP hD hS ls hl h
    have h := (fX4_solve_3_s  n t_cells t_parts v1 v2 v3 v4).symm.trans h
    have hG := hGk hS
    refine lv_iload hx hb dX4_solve_3 (lv_at hl 4 rfl) ?_
    refine lv_iconst (v := 3) hx hb dX4_solve_5 (by decide) ?_
    refine lv_icmp_ge (tgt := 58) hx hb dX4_solve_6 (by decide) (fun c1 => ?_) (fun c1 => ?_)
    · have h := itp c1 h
      exact hrt (fun _ => 0) _ _ t_parts _ _ dX4_solve_58 h (hP.sub [0, 1, 2] rfl) (hD.sub [0, 1, 2] (by decide) rfl) hS
    · have h := itn c1 h
      refine lv_aload_n hx hb dX4_solve_9 rfl (lv_at hl 0 rfl) ?_
      refine xa_get (C := RX4) (T := TX4) (N := 3) cx hG hP 0 rfl rfl uX4 1 (by decide) lf_X4_15 rfl dX4_solve_10 ?_
      refine lv_iload hx hb dX4_solve_13 (lv_at hl 4 rfl) ?_
      refine lv_ldc2 (own := RX4) (v := 2) hx hb cx.2.2.2.1 (cx.2.2.2.2 _ cl_X4_35) dX4_solve_15 ?_
      refine lv_aload_n hx hb dX4_solve_18 rfl (lv_at hl 0 rfl) ?_
      refine lv_iconst (v := 0) hx hb dX4_solve_19 (by decide) ?_
      refine lv_iload hx hb dX4_solve_20 (lv_at hl 4 rfl) ?_
      obtain ⟨r2, hr3, h⟩ := bnd h
      refine ro_l (runV (As := [.int (0), .int v4]) (rest := [.long (2), .int v4, .ref ((a_t 2))]) cx hl.1 (ctX4_cofactor l g a_t t_det t_cells (0) v4 r2 hr3) kmX4_cofactor kvX4_cofactor lm_X4_24 ⟨rfl, rfl⟩ ⟨Nat.le_of_ble_eq_true rfl, Nat.le_of_ble_eq_true rfl⟩ (roV (q0 := 0) (ci := 3) hG (hP.sub [0, 1] rfl) hP rfl rfl) rfl rfl (Nat.le_of_ble_eq_true rfl) dX4_solve_22 ⟨Nat.le_of_ble_eq_true rfl, Nat.le_of_ble_eq_true rfl⟩) ?_
      refine lv_iload_n hx hb dX4_solve_25 rfl (lv_at hl 1 rfl) ?_
      refine lv_i2l (v := v1.toInt64) hx hb dX4_solve_26 rfl ?_
      refine lv_lmul hx hb dX4_solve_27 ?_
      refine lv_aload_n hx hb dX4_solve_28 rfl (lv_at hl 0 rfl) ?_
      refine lv_iconst (v := 1) hx hb dX4_solve_29 (by decide) ?_
      refine lv_iload hx hb dX4_solve_30 (lv_at hl 4 rfl) ?_
      obtain ⟨r4, hr5, h⟩ := bnd h
      refine ro_l (runV (As := [.int (1), .int v4]) (rest := [.long (r2 * v1.toInt64), .long (2), .int v4, .ref ((a_t 2))]) cx hl.1 (ctX4_cofactor l g a_t t_det t_cells (1) v4 r4 hr5) kmX4_cofactor kvX4_cofactor lm_X4_24 ⟨rfl, rfl⟩ ⟨Nat.le_of_ble_eq_true rfl, Nat.le_of_ble_eq_true rfl⟩ (roV (q0 := 0) (ci := 3) hG (hP.sub [0, 1] rfl) hP rfl rfl) rfl rfl (Nat.le_of_ble_eq_true rfl) dX4_solve_32 ⟨Nat.le_of_ble_eq_true rfl, Nat.le_of_ble_eq_true rfl⟩) ?_
      refine lv_iload_n hx hb dX4_solve_35 rfl (lv_at hl 2 rfl) ?_
      refine lv_i2l (v := v2.toInt64) hx hb dX4_solve_36 rfl ?_
      refine lv_lmul hx hb dX4_solve_37 ?_
      refine lv_ladd hx hb dX4_solve_38 ?_
      refine lv_aload_n hx hb dX4_solve_39 rfl (lv_at hl 0 rfl) ?_
      refine lv_iconst (v := 2) hx hb dX4_solve_40 (by decide) ?_
      refine lv_iload hx hb dX4_solve_41 (lv_at hl 4 rfl) ?_
      obtain ⟨r6, hr7, h⟩ := bnd h
      refine ro_l (runV (As := [.int (2), .int v4]) (rest := [.long ((r2 * v1.toInt64) + (r4 * v2.toInt64)), .long (2), .int v4, .ref ((a_t 2))]) cx hl.1 (ctX4_cofactor l g a_t t_det t_cells (2) v4 r6 hr7) kmX4_cofactor kvX4_cofactor lm_X4_24 ⟨rfl, rfl⟩ ⟨Nat.le_of_ble_eq_true rfl, Nat.le_of_ble_eq_true rfl⟩ (roV (q0 := 0) (ci := 3) hG (hP.sub [0, 1] rfl) hP rfl rfl) rfl rfl (Nat.le_of_ble_eq_true rfl) dX4_solve_43 ⟨Nat.le_of_ble_eq_true rfl, Nat.le_of_ble_eq_true rfl⟩) ?_
      refine lv_iload_n hx hb dX4_solve_46 rfl (lv_at hl 3 rfl) ?_
      refine lv_i2l (v := v3.toInt64) hx hb dX4_solve_47 rfl ?_
      refine lv_lmul hx hb dX4_solve_48 ?_
      refine lv_ladd hx hb dX4_solve_49 ?_
      refine lv_lmul hx hb dX4_solve_50 ?_
      obtain ⟨hi8, h⟩ := chk_out h
      refine xw_last (ws' := [((a_t 0), .inr (3, [.ref (a_t 1), .ref (a_t 2), .long t_det])), ((a_t 1), .inl (g.2.2.1 1, 9, .inr (.inl t_cells))), ((a_t 2), .inl (g.2.2.1 1, 3, .inr (.inl (vp_updL t_parts v4.toNatClampNeg (2 * (((r2 * v1.toInt64) + (r4 * v2.toInt64)) + (r6 * v3.toInt64)))))))]) (k := v4.toNatClampNeg) cx hG hP hD hS 2 rfl hi8 rfl rfl dX4_solve_51 (fun H locs hP hD hS => ?_)
      have hG := hGk hS
      refine lv_iinc (v := v4 + 1) (lv' := [(4, .int (v4 + 1)), (0, .ref ((a_t 0))), (1, .int v1), (2, .int v2), (3, .int v3)]) hx hb dX4_solve_52 hl (k := 4) rfl rfl (by decide) rfl (fun ls hl => ?_)
      refine lv_goto (tgt := 3) hx hb dX4_solve_55 (by decide) ?_
      exact ih (vp_updL t_parts v4.toNatClampNeg (2 * (((r2 * v1.toInt64) + (r4 * v2.toInt64)) + (r6 * v3.toInt64)))) v1 v2 v3 (v4 + 1) _ _ hP hD hS _ (lv_sub hl [1, 2, 3, 4, 0] rfl) h
  unfold fX4_solve at h
  refine lv_iconst (v := 0) hx hb dX4_solve_0 (by decide) ?_
  refine lv_istore (lv' := [(4, .int (0)), (0, .ref ((a_t 0))), (1, .int v1), (2, .int v2), (3, .int v3)]) hx hb dX4_solve_1 hl (by decide) rfl (fun ls hl => ?_)
  exact w3 FU t_parts v1 v2 v3 0 _ _ hP hD hS _ (lv_sub hl [1, 2, 3, 4, 0] rfl) h
-- X4_part
theorem dX4_part_0 : decode cX4_part 0 = .ok (.iload_n 1, 1) := by decide +kernel
theorem dX4_part_1 : decode cX4_part 1 = .ok (.ifCond .lt 8, 3) := by decide +kernel
theorem dX4_part_4 : decode cX4_part 4 = .ok (.iload_n 1, 1) := by decide +kernel
theorem dX4_part_5 : decode cX4_part 5 = .ok (.iconst 2, 1) := by decide +kernel
theorem dX4_part_6 : decode cX4_part 6 = .ok (.if_icmp .le 7, 3) := by decide +kernel
theorem dX4_part_9 : decode cX4_part 9 = .ok (.lconst 0, 1) := by decide +kernel
theorem dX4_part_10 : decode cX4_part 10 = .ok (.goto 9, 3) := by decide +kernel
theorem dX4_part_13 : decode cX4_part 13 = .ok (.aload_n 0, 1) := by decide +kernel
theorem dX4_part_14 : decode cX4_part 14 = .ok (.getfield 15, 3) := by decide +kernel
theorem dX4_part_17 : decode cX4_part 17 = .ok (.iload_n 1, 1) := by decide +kernel
theorem dX4_part_18 : decode cX4_part 18 = .ok (.laload, 1) := by decide +kernel
theorem dX4_part_19 : decode cX4_part 19 = .ok (.lreturn, 1) := by decide +kernel
noncomputable def fX4_part  (t_parts : Nat → Int64) (v1 : Int32) : Option (Int64) := (if v1 < 0 then some (0) else (if v1 ≤ 2 then chk 3 v1 (some (t_parts v1.toNatClampNeg)) else some (0)))
set_option maxHeartbeats 4000000 in
set_option maxRecDepth 100000 in
theorem ctX4_part (l : Launch) (g : GT) (a_t : Nat → Nat) (t_det : Int64) (t_parts : Nat → Int64) (v1 : Int32) (o : Int64) (h : fX4_part t_parts v1 = some o) : Met l yX4_part (Cond.code yX4_part cX4_part 2 (some .long) :: Tw) ⟨0, 0, 0, 0⟩ (va_Pc [.ref ((a_t 0)), .int v1] (roB g [((a_t 0), .inr (3, [.ref (a_t 1), .ref (a_t 2), .long t_det])), ((a_t 2), .inl (g.2.2.1 1, 3, .inr (.inl t_parts)))])) (vp_Sl (fun x => x = o)) 0 0 (fun _ => False) := by
  refine ro_metl (by decide) (Nat.le_of_ble_eq_true rfl) (lv0 := [(0, .ref ((a_t 0))), (1, .int v1)]) rfl ?_
  intro p e s m args below meth c ls Q cx hret hG hP hl
  have hx := cx.1
  have hb := cx.2.1
  have hG0 := hG
  unfold fX4_part at h
  refine lv_iload_n hx hb dX4_part_0 rfl (lv_at hl 1 rfl) ?_
  refine lv_if_lt (tgt := 9) hx hb dX4_part_1 (by decide) (fun c1 => ?_) (fun c1 => ?_)
  · have h := itp c1 h
    refine lv_lconst (v := 0) hx hb dX4_part_9 (by decide) ?_
    refine lv_goto (tgt := 19) hx hb dX4_part_10 (by decide) ?_
    exact hret _ _ _ dX4_part_19 (Option.some.inj h)
  · have h := itn c1 h
    refine lv_iload_n hx hb dX4_part_4 rfl (lv_at hl 1 rfl) ?_
    refine lv_iconst (v := 2) hx hb dX4_part_5 (by decide) ?_
    refine lv_icmp_le (tgt := 13) hx hb dX4_part_6 (by decide) (fun c2 => ?_) (fun c2 => ?_)
    · have h := itp c2 h
      refine lv_aload_n hx hb dX4_part_13 rfl (lv_at hl 0 rfl) ?_
      refine xa_get (C := RX4) (T := TX4) (N := 3) cx hG hP 0 rfl rfl uX4 1 (by decide) lf_X4_15 rfl dX4_part_14 ?_
      refine lv_iload_n hx hb dX4_part_17 rfl (lv_at hl 1 rfl) ?_
      obtain ⟨hi3, h⟩ := chk_out h
      refine xa_lald cx hG hP 1 rfl hi3 rfl dX4_part_18 ?_
      exact hret _ _ _ dX4_part_19 (Option.some.inj h)
    · have h := itn c2 h
      refine lv_lconst (v := 0) hx hb dX4_part_9 (by decide) ?_
      refine lv_goto (tgt := 19) hx hb dX4_part_10 (by decide) ?_
      exact hret _ _ _ dX4_part_19 (Option.some.inj h)
-- X4_along
theorem dX4_along_0 : decode cX4_along 0 = .ok (.iload_n 1, 1) := by decide +kernel
theorem dX4_along_1 : decode cX4_along 1 = .ok (.tableswitch 80 0 2 #[27, 38, 59], 27) := by decide +kernel
theorem dX4_along_28 : decode cX4_along 28 = .ok (.ldc2_w 35, 3) := by decide +kernel
theorem dX4_along_31 : decode cX4_along 31 = .ok (.aload_n 0, 1) := by decide +kernel
theorem dX4_along_32 : decode cX4_along 32 = .ok (.getfield 15, 3) := by decide +kernel
theorem dX4_along_35 : decode cX4_along 35 = .ok (.iconst 0, 1) := by decide +kernel
theorem dX4_along_36 : decode cX4_along 36 = .ok (.laload, 1) := by decide +kernel
theorem dX4_along_37 : decode cX4_along 37 = .ok (.lmul, 1) := by decide +kernel
theorem dX4_along_38 : decode cX4_along 38 = .ok (.lreturn, 1) := by decide +kernel
theorem dX4_along_39 : decode cX4_along 39 = .ok (.aload_n 0, 1) := by decide +kernel
theorem dX4_along_40 : decode cX4_along 40 = .ok (.getfield 15, 3) := by decide +kernel
theorem dX4_along_43 : decode cX4_along 43 = .ok (.iconst 0, 1) := by decide +kernel
theorem dX4_along_44 : decode cX4_along 44 = .ok (.laload, 1) := by decide +kernel
theorem dX4_along_45 : decode cX4_along 45 = .ok (.aload_n 0, 1) := by decide +kernel
theorem dX4_along_46 : decode cX4_along 46 = .ok (.getfield 15, 3) := by decide +kernel
theorem dX4_along_49 : decode cX4_along 49 = .ok (.iconst 1, 1) := by decide +kernel
theorem dX4_along_50 : decode cX4_along 50 = .ok (.laload, 1) := by decide +kernel
theorem dX4_along_51 : decode cX4_along 51 = .ok (.ladd, 1) := by decide +kernel
theorem dX4_along_52 : decode cX4_along 52 = .ok (.aload_n 0, 1) := by decide +kernel
theorem dX4_along_53 : decode cX4_along 53 = .ok (.getfield 15, 3) := by decide +kernel
theorem dX4_along_56 : decode cX4_along 56 = .ok (.iconst 2, 1) := by decide +kernel
theorem dX4_along_57 : decode cX4_along 57 = .ok (.laload, 1) := by decide +kernel
theorem dX4_along_58 : decode cX4_along 58 = .ok (.ladd, 1) := by decide +kernel
theorem dX4_along_59 : decode cX4_along 59 = .ok (.lreturn, 1) := by decide +kernel
theorem dX4_along_60 : decode cX4_along 60 = .ok (.aload_n 0, 1) := by decide +kernel
theorem dX4_along_61 : decode cX4_along 61 = .ok (.getfield 15, 3) := by decide +kernel
theorem dX4_along_64 : decode cX4_along 64 = .ok (.iconst 0, 1) := by decide +kernel
theorem dX4_along_65 : decode cX4_along 65 = .ok (.laload, 1) := by decide +kernel
theorem dX4_along_66 : decode cX4_along 66 = .ok (.aload_n 0, 1) := by decide +kernel
theorem dX4_along_67 : decode cX4_along 67 = .ok (.getfield 15, 3) := by decide +kernel
theorem dX4_along_70 : decode cX4_along 70 = .ok (.iconst 1, 1) := by decide +kernel
theorem dX4_along_71 : decode cX4_along 71 = .ok (.laload, 1) := by decide +kernel
theorem dX4_along_72 : decode cX4_along 72 = .ok (.ladd, 1) := by decide +kernel
theorem dX4_along_73 : decode cX4_along 73 = .ok (.aload_n 0, 1) := by decide +kernel
theorem dX4_along_74 : decode cX4_along 74 = .ok (.getfield 15, 3) := by decide +kernel
theorem dX4_along_77 : decode cX4_along 77 = .ok (.iconst 2, 1) := by decide +kernel
theorem dX4_along_78 : decode cX4_along 78 = .ok (.laload, 1) := by decide +kernel
theorem dX4_along_79 : decode cX4_along 79 = .ok (.lsub, 1) := by decide +kernel
theorem dX4_along_80 : decode cX4_along 80 = .ok (.lreturn, 1) := by decide +kernel
theorem dX4_along_81 : decode cX4_along 81 = .ok (.ldc2_w 35, 3) := by decide +kernel
theorem dX4_along_84 : decode cX4_along 84 = .ok (.aload_n 0, 1) := by decide +kernel
theorem dX4_along_85 : decode cX4_along 85 = .ok (.getfield 15, 3) := by decide +kernel
theorem dX4_along_88 : decode cX4_along 88 = .ok (.iconst 1, 1) := by decide +kernel
theorem dX4_along_89 : decode cX4_along 89 = .ok (.laload, 1) := by decide +kernel
theorem dX4_along_90 : decode cX4_along 90 = .ok (.lmul, 1) := by decide +kernel
theorem dX4_along_91 : decode cX4_along 91 = .ok (.lreturn, 1) := by decide +kernel
noncomputable def fX4_along  (t_parts : Nat → Int64) (v1 : Int32) : Option (Int64) := (if v1 = 0 then some (2 * (t_parts 0)) else (if v1 = 1 then some (((t_parts 0) + (t_parts 1)) + (t_parts 2)) else (if v1 = 2 then some (((t_parts 0) + (t_parts 1)) - (t_parts 2)) else some (2 * (t_parts 1)))))
set_option maxHeartbeats 4000000 in
set_option maxRecDepth 100000 in
theorem ctX4_along (l : Launch) (g : GT) (a_t : Nat → Nat) (t_det : Int64) (t_parts : Nat → Int64) (v1 : Int32) (o : Int64) (h : fX4_along t_parts v1 = some o) : Met l yX4_along (Cond.code yX4_along cX4_along 2 (some .long) :: Tw) ⟨0, 0, 0, 0⟩ (va_Pc [.ref ((a_t 0)), .int v1] (roB g [((a_t 0), .inr (3, [.ref (a_t 1), .ref (a_t 2), .long t_det])), ((a_t 2), .inl (g.2.2.1 1, 3, .inr (.inl t_parts)))])) (vp_Sl (fun x => x = o)) 0 0 (fun _ => False) := by
  refine ro_metl (by decide) (Nat.le_of_ble_eq_true rfl) (lv0 := [(0, .ref ((a_t 0))), (1, .int v1)]) rfl ?_
  intro p e s m args below meth c ls Q cx hret hG hP hl
  have hx := cx.1
  have hb := cx.2.1
  have hG0 := hG
  unfold fX4_along at h
  refine lv_iload_n hx hb dX4_along_0 rfl (lv_at hl 1 rfl) ?_
  by_cases c1 : v1 = 0
  · have h := itp c1 h
    refine lv_tableIn (tgt := 28) (off := 27) hx hb dX4_along_1 (by rw [c1]; decide) (by rw [c1]; decide) (by rw [c1]; decide +kernel) (by decide) ?_
    refine lv_ldc2 (own := RX4) (v := 2) hx hb cx.2.2.2.1 (cx.2.2.2.2 _ cl_X4_35) dX4_along_28 ?_
    refine lv_aload_n hx hb dX4_along_31 rfl (lv_at hl 0 rfl) ?_
    refine xa_get (C := RX4) (T := TX4) (N := 3) cx hG hP 0 rfl rfl uX4 1 (by decide) lf_X4_15 rfl dX4_along_32 ?_
    refine lv_iconst (v := 0) hx hb dX4_along_35 (by decide) ?_
    refine xa_lald (k := 0) cx hG hP 1 rfl (show ¬ ((0 : Int32) < 0 ∨ 3 ≤ (0 : Int32).toNatClampNeg) by decide) (by decide) dX4_along_36 ?_
    refine lv_lmul hx hb dX4_along_37 ?_
    exact hret _ _ _ dX4_along_38 (Option.some.inj h)
  · have h := itn c1 h
    by_cases c2 : v1 = 1
    · have h := itp c2 h
      refine lv_tableIn (tgt := 39) (off := 38) hx hb dX4_along_1 (by rw [c2]; decide) (by rw [c2]; decide) (by rw [c2]; decide +kernel) (by decide) ?_
      refine lv_aload_n hx hb dX4_along_39 rfl (lv_at hl 0 rfl) ?_
      refine xa_get (C := RX4) (T := TX4) (N := 3) cx hG hP 0 rfl rfl uX4 1 (by decide) lf_X4_15 rfl dX4_along_40 ?_
      refine lv_iconst (v := 0) hx hb dX4_along_43 (by decide) ?_
      refine xa_lald (k := 0) cx hG hP 1 rfl (show ¬ ((0 : Int32) < 0 ∨ 3 ≤ (0 : Int32).toNatClampNeg) by decide) (by decide) dX4_along_44 ?_
      refine lv_aload_n hx hb dX4_along_45 rfl (lv_at hl 0 rfl) ?_
      refine xa_get (C := RX4) (T := TX4) (N := 3) cx hG hP 0 rfl rfl uX4 1 (by decide) lf_X4_15 rfl dX4_along_46 ?_
      refine lv_iconst (v := 1) hx hb dX4_along_49 (by decide) ?_
      refine xa_lald (k := 1) cx hG hP 1 rfl (show ¬ ((1 : Int32) < 0 ∨ 3 ≤ (1 : Int32).toNatClampNeg) by decide) (by decide) dX4_along_50 ?_
      refine lv_ladd hx hb dX4_along_51 ?_
      refine lv_aload_n hx hb dX4_along_52 rfl (lv_at hl 0 rfl) ?_
      refine xa_get (C := RX4) (T := TX4) (N := 3) cx hG hP 0 rfl rfl uX4 1 (by decide) lf_X4_15 rfl dX4_along_53 ?_
      refine lv_iconst (v := 2) hx hb dX4_along_56 (by decide) ?_
      refine xa_lald (k := 2) cx hG hP 1 rfl (show ¬ ((2 : Int32) < 0 ∨ 3 ≤ (2 : Int32).toNatClampNeg) by decide) (by decide) dX4_along_57 ?_
      refine lv_ladd hx hb dX4_along_58 ?_
      exact hret _ _ _ dX4_along_59 (Option.some.inj h)
    · have h := itn c2 h
      by_cases c3 : v1 = 2
      · have h := itp c3 h
        refine lv_tableIn (tgt := 60) (off := 59) hx hb dX4_along_1 (by rw [c3]; decide) (by rw [c3]; decide) (by rw [c3]; decide +kernel) (by decide) ?_
        refine lv_aload_n hx hb dX4_along_60 rfl (lv_at hl 0 rfl) ?_
        refine xa_get (C := RX4) (T := TX4) (N := 3) cx hG hP 0 rfl rfl uX4 1 (by decide) lf_X4_15 rfl dX4_along_61 ?_
        refine lv_iconst (v := 0) hx hb dX4_along_64 (by decide) ?_
        refine xa_lald (k := 0) cx hG hP 1 rfl (show ¬ ((0 : Int32) < 0 ∨ 3 ≤ (0 : Int32).toNatClampNeg) by decide) (by decide) dX4_along_65 ?_
        refine lv_aload_n hx hb dX4_along_66 rfl (lv_at hl 0 rfl) ?_
        refine xa_get (C := RX4) (T := TX4) (N := 3) cx hG hP 0 rfl rfl uX4 1 (by decide) lf_X4_15 rfl dX4_along_67 ?_
        refine lv_iconst (v := 1) hx hb dX4_along_70 (by decide) ?_
        refine xa_lald (k := 1) cx hG hP 1 rfl (show ¬ ((1 : Int32) < 0 ∨ 3 ≤ (1 : Int32).toNatClampNeg) by decide) (by decide) dX4_along_71 ?_
        refine lv_ladd hx hb dX4_along_72 ?_
        refine lv_aload_n hx hb dX4_along_73 rfl (lv_at hl 0 rfl) ?_
        refine xa_get (C := RX4) (T := TX4) (N := 3) cx hG hP 0 rfl rfl uX4 1 (by decide) lf_X4_15 rfl dX4_along_74 ?_
        refine lv_iconst (v := 2) hx hb dX4_along_77 (by decide) ?_
        refine xa_lald (k := 2) cx hG hP 1 rfl (show ¬ ((2 : Int32) < 0 ∨ 3 ≤ (2 : Int32).toNatClampNeg) by decide) (by decide) dX4_along_78 ?_
        refine lv_lsub hx hb dX4_along_79 ?_
        exact hret _ _ _ dX4_along_80 (Option.some.inj h)
      · have h := itn c3 h
        refine lv_tableOut (tgt := 81) hx hb dX4_along_1 (tsw3 c1 c2 c3) (by decide) ?_
        refine lv_ldc2 (own := RX4) (v := 2) hx hb cx.2.2.2.1 (cx.2.2.2.2 _ cl_X4_35) dX4_along_81 ?_
        refine lv_aload_n hx hb dX4_along_84 rfl (lv_at hl 0 rfl) ?_
        refine xa_get (C := RX4) (T := TX4) (N := 3) cx hG hP 0 rfl rfl uX4 1 (by decide) lf_X4_15 rfl dX4_along_85 ?_
        refine lv_iconst (v := 1) hx hb dX4_along_88 (by decide) ?_
        refine xa_lald (k := 1) cx hG hP 1 rfl (show ¬ ((1 : Int32) < 0 ∨ 3 ≤ (1 : Int32).toNatClampNeg) by decide) (by decide) dX4_along_89 ?_
        refine lv_lmul hx hb dX4_along_90 ?_
        exact hret _ _ _ dX4_along_91 (Option.some.inj h)
-- X4_strainedAt
theorem dX4_strainedAt_0 : decode cX4_strainedAt 0 = .ok (.aload_n 0, 1) := by decide +kernel
theorem dX4_strainedAt_1 : decode cX4_strainedAt 1 = .ok (.aload_n 1, 1) := by decide +kernel
theorem dX4_strainedAt_2 : decode cX4_strainedAt 2 = .ok (.invokevirtual 37, 3) := by decide +kernel
theorem dX4_strainedAt_5 : decode cX4_strainedAt 5 = .ok (.iload_n 2, 1) := by decide +kernel
theorem dX4_strainedAt_6 : decode cX4_strainedAt 6 = .ok (.invokestatic 41, 3) := by decide +kernel
theorem dX4_strainedAt_9 : decode cX4_strainedAt 9 = .ok (.invokevirtual 47, 3) := by decide +kernel
theorem dX4_strainedAt_12 : decode cX4_strainedAt 12 = .ok (.invokestatic 51, 3) := by decide +kernel
theorem dX4_strainedAt_15 : decode cX4_strainedAt 15 = .ok (.lreturn, 1) := by decide +kernel
noncomputable def fX4_strainedAt  (t_parts : Nat → Int64) (p1_rows : Nat → Int32) (p1_acts : Int32) (v2 : Int32) : Option (Int64) := (fX1_row p1_rows p1_acts).bind fun r1 => (fX4_along t_parts (fX3_angleAt r1 v2)).bind fun r3 => some (labs r3)
set_option maxHeartbeats 4000000 in
set_option maxRecDepth 100000 in
theorem ctX4_strainedAt (l : Launch) (g : GT) (a_t : Nat → Nat) (a_p1 : Nat → Nat) (t_det : Int64) (t_parts : Nat → Int64) (p1_told : Int32) (p1_lines : Int32) (p1_kinds : Int32) (p1_acts : Int32) (p1_rows : Nat → Int32) (v2 : Int32) (o : Int64) (h : fX4_strainedAt t_parts p1_rows p1_acts v2 = some o) : Met l yX4_strainedAt (Cond.code yX4_strainedAt cX4_strainedAt 3 (some .long) :: Tw) ⟨1, 0, 0, 26⟩ (va_Pc [.ref ((a_t 0)), .ref ((a_p1 0)), .int v2] (roB g [((a_t 0), .inr (3, [.ref (a_t 1), .ref (a_t 2), .long t_det])), ((a_t 2), .inl (g.2.2.1 1, 3, .inr (.inl t_parts))), ((a_p1 0), .inr (1, [.ref (a_p1 1), .ref (a_p1 2), .ref (a_p1 3), .ref (a_p1 4), .ref (a_p1 5), .int p1_told, .int p1_lines, .int p1_kinds, .int p1_acts])), ((a_p1 3), .inl (g.2.2.1 0, 31, .inl p1_rows))])) (vp_Sl (fun x => x = o)) 0 0 (fun _ => False) := by
  refine ro_metl (by decide) (Nat.le_of_ble_eq_true rfl) (lv0 := [(0, .ref ((a_t 0))), (1, .ref ((a_p1 0))), (2, .int v2)]) rfl ?_
  intro p e s m args below meth c ls Q cx hret hG hP hl
  have hx := cx.1
  have hb := cx.2.1
  have hG0 := hG
  unfold fX4_strainedAt at h
  refine lv_aload_n hx hb dX4_strainedAt_0 rfl (lv_at hl 0 rfl) ?_
  refine lv_aload_n hx hb dX4_strainedAt_1 rfl (lv_at hl 1 rfl) ?_
  obtain ⟨r1, hr2, h⟩ := bnd h
  refine ro_i (runVN (As := []) (rest := [.ref ((a_t 0))]) hG cx hl.1 (ctX1_row l g a_p1 p1_told p1_lines p1_kinds p1_acts p1_rows r1 hr2) kmX1_row kvX1_row nm_44 ⟨rfl, rfl⟩ ⟨Nat.le_of_ble_eq_true rfl, Nat.le_of_ble_eq_true rfl⟩ (roV (q0 := 2) (ci := 1) hG (hP.sub [2, 3] rfl) hP rfl rfl) rfl rfl (Nat.le_of_ble_eq_true rfl) dX4_strainedAt_2 ⟨Nat.le_of_ble_eq_true rfl, Nat.le_of_ble_eq_true rfl⟩) ?_
  refine lv_iload_n hx hb dX4_strainedAt_5 rfl (lv_at hl 2 rfl) ?_
  refine ro_i (runSN (As := [.int r1, .int v2]) (rest := [.ref ((a_t 0))]) hG cx hl.1 (ctX3_angleAt l g r1 v2 (fX3_angleAt r1 v2) rfl) kmX3_angleAt ksX3_angleAt nm_45 ⟨rfl, rfl⟩ ⟨Nat.le_of_ble_eq_true rfl, Nat.le_of_ble_eq_true rfl⟩ (roS hG (hP.sub [] rfl)) rfl rfl (Nat.le_of_ble_eq_true rfl) dX4_strainedAt_6 ⟨Nat.le_of_ble_eq_true rfl, Nat.le_of_ble_eq_true rfl⟩) ?_
  obtain ⟨r3, hr4, h⟩ := bnd h
  refine ro_l (runV (As := [.int (fX3_angleAt r1 v2)]) (rest := []) cx hl.1 (ctX4_along l g a_t t_det t_parts (fX3_angleAt r1 v2) r3 hr4) kmX4_along kvX4_along lm_X4_47 ⟨rfl, rfl⟩ ⟨Nat.le_of_ble_eq_true rfl, Nat.le_of_ble_eq_true rfl⟩ (roV (q0 := 0) (ci := 3) hG (hP.sub [0, 1] rfl) hP rfl rfl) rfl rfl (Nat.le_of_ble_eq_true rfl) dX4_strainedAt_9 ⟨Nat.le_of_ble_eq_true rfl, Nat.le_of_ble_eq_true rfl⟩) ?_
  refine xm_labs cx hl.1 lm_X4_51 ⟨ksJ9_abs_067f4, kmJ9_abs_067f4.2.1, kmJ9_abs_067f4.1⟩ (Nat.le_of_ble_eq_true rfl) (Nat.le_of_ble_eq_true rfl) (Nat.le_of_ble_eq_true rfl) (Nat.le_of_ble_eq_true rfl) dX4_strainedAt_12 ?_
  exact hret _ _ _ dX4_strainedAt_15 (Option.some.inj h)
-- X4_bound
theorem dX4_bound_0 : decode cX4_bound 0 = .ok (.aload_n 1, 1) := by decide +kernel
theorem dX4_bound_1 : decode cX4_bound 1 = .ok (.iload_n 2, 1) := by decide +kernel
theorem dX4_bound_2 : decode cX4_bound 2 = .ok (.invokevirtual 57, 3) := by decide +kernel
theorem dX4_bound_5 : decode cX4_bound 5 = .ok (.iconst 2, 1) := by decide +kernel
theorem dX4_bound_6 : decode cX4_bound 6 = .ok (.imul, 1) := by decide +kernel
theorem dX4_bound_7 : decode cX4_bound 7 = .ok (.i2l, 1) := by decide +kernel
theorem dX4_bound_8 : decode cX4_bound 8 = .ok (.aload_n 0, 1) := by decide +kernel
theorem dX4_bound_9 : decode cX4_bound 9 = .ok (.getfield 28, 3) := by decide +kernel
theorem dX4_bound_12 : decode cX4_bound 12 = .ok (.invokestatic 51, 3) := by decide +kernel
theorem dX4_bound_15 : decode cX4_bound 15 = .ok (.lmul, 1) := by decide +kernel
theorem dX4_bound_16 : decode cX4_bound 16 = .ok (.lreturn, 1) := by decide +kernel
noncomputable def fX4_bound  (t_det : Int64) (p1_numbers : Nat → Int32) (p1_rows : Nat → Int32) (p1_acts : Int32) (v2 : Int32) : Option (Int64) := (fX1_limitAt p1_numbers p1_rows p1_acts v2).bind fun r1 => some (((r1 * 2).toInt64) * (labs t_det))
set_option maxHeartbeats 4000000 in
set_option maxRecDepth 100000 in
theorem ctX4_bound (l : Launch) (g : GT) (a_t : Nat → Nat) (a_p1 : Nat → Nat) (t_det : Int64) (p1_told : Int32) (p1_lines : Int32) (p1_kinds : Int32) (p1_acts : Int32) (p1_numbers : Nat → Int32) (p1_rows : Nat → Int32) (v2 : Int32) (o : Int64) (h : fX4_bound t_det p1_numbers p1_rows p1_acts v2 = some o) : Met l yX4_bound (Cond.code yX4_bound cX4_bound 3 (some .long) :: Tw) ⟨2, 0, 0, 43⟩ (va_Pc [.ref ((a_t 0)), .ref ((a_p1 0)), .int v2] (roB g [((a_t 0), .inr (3, [.ref (a_t 1), .ref (a_t 2), .long t_det])), ((a_p1 0), .inr (1, [.ref (a_p1 1), .ref (a_p1 2), .ref (a_p1 3), .ref (a_p1 4), .ref (a_p1 5), .int p1_told, .int p1_lines, .int p1_kinds, .int p1_acts])), ((a_p1 1), .inl (g.2.2.1 0, 15, .inl p1_numbers)), ((a_p1 3), .inl (g.2.2.1 0, 31, .inl p1_rows))])) (vp_Sl (fun x => x = o)) 0 0 (fun _ => False) := by
  refine ro_metl (by decide) (Nat.le_of_ble_eq_true rfl) (lv0 := [(0, .ref ((a_t 0))), (1, .ref ((a_p1 0))), (2, .int v2)]) rfl ?_
  intro p e s m args below meth c ls Q cx hret hG hP hl
  have hx := cx.1
  have hb := cx.2.1
  have hG0 := hG
  unfold fX4_bound at h
  refine lv_aload_n hx hb dX4_bound_0 rfl (lv_at hl 1 rfl) ?_
  refine lv_iload_n hx hb dX4_bound_1 rfl (lv_at hl 2 rfl) ?_
  obtain ⟨r1, hr2, h⟩ := bnd h
  refine ro_i (runVN (As := [.int v2]) (rest := []) hG cx hl.1 (ctX1_limitAt l g a_p1 p1_told p1_lines p1_kinds p1_acts p1_numbers p1_rows v2 r1 hr2) kmX1_limitAt kvX1_limitAt nm_46 ⟨rfl, rfl⟩ ⟨Nat.le_of_ble_eq_true rfl, Nat.le_of_ble_eq_true rfl⟩ (roV (q0 := 1) (ci := 1) hG (hP.sub [1, 2, 3] rfl) hP rfl rfl) rfl rfl (Nat.le_of_ble_eq_true rfl) dX4_bound_2 ⟨Nat.le_of_ble_eq_true rfl, Nat.le_of_ble_eq_true rfl⟩) ?_
  refine lv_iconst (v := 2) hx hb dX4_bound_5 (by decide) ?_
  refine lv_imul hx hb dX4_bound_6 ?_
  refine lv_i2l (v := (r1 * 2).toInt64) hx hb dX4_bound_7 rfl ?_
  refine lv_aload_n hx hb dX4_bound_8 rfl (lv_at hl 0 rfl) ?_
  refine xa_get (C := RX4) (T := TX4) (N := 3) cx hG hP 0 rfl rfl uX4 2 (by decide) lf_X4_28 rfl dX4_bound_9 ?_
  refine xm_labs cx hl.1 lm_X4_51 ⟨ksJ9_abs_067f4, kmJ9_abs_067f4.2.1, kmJ9_abs_067f4.1⟩ (Nat.le_of_ble_eq_true rfl) (Nat.le_of_ble_eq_true rfl) (Nat.le_of_ble_eq_true rfl) (Nat.le_of_ble_eq_true rfl) dX4_bound_12 ?_
  refine lv_lmul hx hb dX4_bound_15 ?_
  exact hret _ _ _ dX4_bound_16 (Option.some.inj h)
-- X4_weakest
theorem dX4_weakest_0 : decode cX4_weakest 0 = .ok (.iconst (-1), 1) := by decide +kernel
theorem dX4_weakest_1 : decode cX4_weakest 1 = .ok (.istore_n 2, 1) := by decide +kernel
theorem dX4_weakest_2 : decode cX4_weakest 2 = .ok (.iconst 0, 1) := by decide +kernel
theorem dX4_weakest_3 : decode cX4_weakest 3 = .ok (.istore_n 3, 1) := by decide +kernel
theorem dX4_weakest_4 : decode cX4_weakest 4 = .ok (.iload_n 3, 1) := by decide +kernel
theorem dX4_weakest_5 : decode cX4_weakest 5 = .ok (.aload_n 1, 1) := by decide +kernel
theorem dX4_weakest_6 : decode cX4_weakest 6 = .ok (.invokevirtual 61, 3) := by decide +kernel
theorem dX4_weakest_9 : decode cX4_weakest 9 = .ok (.if_icmp .ge 60, 3) := by decide +kernel
theorem dX4_weakest_12 : decode cX4_weakest 12 = .ok (.aload_n 0, 1) := by decide +kernel
theorem dX4_weakest_13 : decode cX4_weakest 13 = .ok (.aload_n 1, 1) := by decide +kernel
theorem dX4_weakest_14 : decode cX4_weakest 14 = .ok (.iload_n 3, 1) := by decide +kernel
theorem dX4_weakest_15 : decode cX4_weakest 15 = .ok (.invokevirtual 64, 3) := by decide +kernel
theorem dX4_weakest_18 : decode cX4_weakest 18 = .ok (.lstore 4, 2) := by decide +kernel
theorem dX4_weakest_20 : decode cX4_weakest 20 = .ok (.lload 4, 2) := by decide +kernel
theorem dX4_weakest_22 : decode cX4_weakest 22 = .ok (.lconst 0, 1) := by decide +kernel
theorem dX4_weakest_23 : decode cX4_weakest 23 = .ok (.lcmp, 1) := by decide +kernel
theorem dX4_weakest_24 : decode cX4_weakest 24 = .ok (.ifCond .ne 6, 3) := by decide +kernel
theorem dX4_weakest_27 : decode cX4_weakest 27 = .ok (.goto 36, 3) := by decide +kernel
theorem dX4_weakest_30 : decode cX4_weakest 30 = .ok (.iload_n 2, 1) := by decide +kernel
theorem dX4_weakest_31 : decode cX4_weakest 31 = .ok (.iconst (-1), 1) := by decide +kernel
theorem dX4_weakest_32 : decode cX4_weakest 32 = .ok (.if_icmp .eq 29, 3) := by decide +kernel
theorem dX4_weakest_35 : decode cX4_weakest 35 = .ok (.aload_n 1, 1) := by decide +kernel
theorem dX4_weakest_36 : decode cX4_weakest 36 = .ok (.iload_n 3, 1) := by decide +kernel
theorem dX4_weakest_37 : decode cX4_weakest 37 = .ok (.invokevirtual 57, 3) := by decide +kernel
theorem dX4_weakest_40 : decode cX4_weakest 40 = .ok (.i2l, 1) := by decide +kernel
theorem dX4_weakest_41 : decode cX4_weakest 41 = .ok (.aload_n 0, 1) := by decide +kernel
theorem dX4_weakest_42 : decode cX4_weakest 42 = .ok (.aload_n 1, 1) := by decide +kernel
theorem dX4_weakest_43 : decode cX4_weakest 43 = .ok (.iload_n 2, 1) := by decide +kernel
theorem dX4_weakest_44 : decode cX4_weakest 44 = .ok (.invokevirtual 64, 3) := by decide +kernel
theorem dX4_weakest_47 : decode cX4_weakest 47 = .ok (.lmul, 1) := by decide +kernel
theorem dX4_weakest_48 : decode cX4_weakest 48 = .ok (.aload_n 1, 1) := by decide +kernel
theorem dX4_weakest_49 : decode cX4_weakest 49 = .ok (.iload_n 2, 1) := by decide +kernel
theorem dX4_weakest_50 : decode cX4_weakest 50 = .ok (.invokevirtual 57, 3) := by decide +kernel
theorem dX4_weakest_53 : decode cX4_weakest 53 = .ok (.i2l, 1) := by decide +kernel
theorem dX4_weakest_54 : decode cX4_weakest 54 = .ok (.lload 4, 2) := by decide +kernel
theorem dX4_weakest_56 : decode cX4_weakest 56 = .ok (.lmul, 1) := by decide +kernel
theorem dX4_weakest_57 : decode cX4_weakest 57 = .ok (.lcmp, 1) := by decide +kernel
theorem dX4_weakest_58 : decode cX4_weakest 58 = .ok (.ifCond .ge 5, 3) := by decide +kernel
theorem dX4_weakest_61 : decode cX4_weakest 61 = .ok (.iload_n 3, 1) := by decide +kernel
theorem dX4_weakest_62 : decode cX4_weakest 62 = .ok (.istore_n 2, 1) := by decide +kernel
theorem dX4_weakest_63 : decode cX4_weakest 63 = .ok (.iinc 3 1, 3) := by decide +kernel
theorem dX4_weakest_66 : decode cX4_weakest 66 = .ok (.goto (-62), 3) := by decide +kernel
theorem dX4_weakest_69 : decode cX4_weakest 69 = .ok (.iload_n 2, 1) := by decide +kernel
theorem dX4_weakest_70 : decode cX4_weakest 70 = .ok (.ireturn, 1) := by decide +kernel
noncomputable def fX4_weakest_63 (k4 : (Nat → Int64) → (Nat → Int32) → (Nat → Int32) → (Nat → Int32) → Int32 → Int32 → Int32 → Option (Int32)) (t_parts : Nat → Int64) (p1_numbers : Nat → Int32) (p1_rows : Nat → Int32) (p1_sizes : Nat → Int32) (p1_acts : Int32) (v2 : Int32) (v3 : Int32) : Option (Int32) := k4 t_parts p1_numbers p1_rows p1_sizes p1_acts v2 (v3 + 1)
noncomputable def fX4_weakest_61 (k4 : (Nat → Int64) → (Nat → Int32) → (Nat → Int32) → (Nat → Int32) → Int32 → Int32 → Int32 → Option (Int32)) (t_parts : Nat → Int64) (p1_numbers : Nat → Int32) (p1_rows : Nat → Int32) (p1_sizes : Nat → Int32) (p1_acts : Int32) (v3 : Int32) : Option (Int32) := fX4_weakest_63 k4 t_parts p1_numbers p1_rows p1_sizes p1_acts v3 v3
noncomputable def fX4_weakest_4  : Nat → (Nat → Int64) → (Nat → Int32) → (Nat → Int32) → (Nat → Int32) → Int32 → Int32 → Int32 → Option (Int32)
  | 0, _, _, _, _, _, _, _ => none
  | n + 1, t_parts, p1_numbers, p1_rows, p1_sizes, p1_acts, v2, v3 => (fX1_plies p1_sizes p1_acts).bind fun r1 => (if r1 ≤ v3 then some v2 else (fX4_strainedAt t_parts p1_rows p1_acts v3).bind fun r4 => (if (lg_cmp r4 0) = 0 then fX4_weakest_63 (fX4_weakest_4 n) t_parts p1_numbers p1_rows p1_sizes p1_acts v2 v3 else (if v2 = (-1) then fX4_weakest_61 (fX4_weakest_4 n) t_parts p1_numbers p1_rows p1_sizes p1_acts v3 else (fX1_limitAt p1_numbers p1_rows p1_acts v3).bind fun r8 => (fX4_strainedAt t_parts p1_rows p1_acts v2).bind fun r10 => (fX1_limitAt p1_numbers p1_rows p1_acts v2).bind fun r12 => (if 0 ≤ (lg_cmp (r8.toInt64 * r10) (r12.toInt64 * r4)) then fX4_weakest_63 (fX4_weakest_4 n) t_parts p1_numbers p1_rows p1_sizes p1_acts v2 v3 else fX4_weakest_61 (fX4_weakest_4 n) t_parts p1_numbers p1_rows p1_sizes p1_acts v3))))
theorem fX4_weakest_4_z  (t_parts : Nat → Int64) (p1_numbers : Nat → Int32) (p1_rows : Nat → Int32) (p1_sizes : Nat → Int32) (p1_acts : Int32) (v2 : Int32) (v3 : Int32) : fX4_weakest_4  0 t_parts p1_numbers p1_rows p1_sizes p1_acts v2 v3 = none := rfl
theorem fX4_weakest_4_s  (n : Nat) (t_parts : Nat → Int64) (p1_numbers : Nat → Int32) (p1_rows : Nat → Int32) (p1_sizes : Nat → Int32) (p1_acts : Int32) (v2 : Int32) (v3 : Int32) : fX4_weakest_4  (n + 1) t_parts p1_numbers p1_rows p1_sizes p1_acts v2 v3 = (fX1_plies p1_sizes p1_acts).bind fun r1 => (if r1 ≤ v3 then some v2 else (fX4_strainedAt t_parts p1_rows p1_acts v3).bind fun r4 => (if (lg_cmp r4 0) = 0 then fX4_weakest_63 (fX4_weakest_4 n) t_parts p1_numbers p1_rows p1_sizes p1_acts v2 v3 else (if v2 = (-1) then fX4_weakest_61 (fX4_weakest_4 n) t_parts p1_numbers p1_rows p1_sizes p1_acts v3 else (fX1_limitAt p1_numbers p1_rows p1_acts v3).bind fun r8 => (fX4_strainedAt t_parts p1_rows p1_acts v2).bind fun r10 => (fX1_limitAt p1_numbers p1_rows p1_acts v2).bind fun r12 => (if 0 ≤ (lg_cmp (r8.toInt64 * r10) (r12.toInt64 * r4)) then fX4_weakest_63 (fX4_weakest_4 n) t_parts p1_numbers p1_rows p1_sizes p1_acts v2 v3 else fX4_weakest_61 (fX4_weakest_4 n) t_parts p1_numbers p1_rows p1_sizes p1_acts v3)))) := rfl
noncomputable def fX4_weakest  (t_parts : Nat → Int64) (p1_numbers : Nat → Int32) (p1_rows : Nat → Int32) (p1_sizes : Nat → Int32) (p1_acts : Int32) : Option (Int32) := fX4_weakest_4 FU t_parts p1_numbers p1_rows p1_sizes p1_acts (-1) 0
set_option maxHeartbeats 4000000 in
set_option maxRecDepth 100000 in
theorem ctX4_weakest (l : Launch) (g : GT) (a_t : Nat → Nat) (a_p1 : Nat → Nat) (t_det : Int64) (t_parts : Nat → Int64) (p1_told : Int32) (p1_lines : Int32) (p1_kinds : Int32) (p1_acts : Int32) (p1_numbers : Nat → Int32) (p1_rows : Nat → Int32) (p1_sizes : Nat → Int32) (o : Int32) (h : fX4_weakest t_parts p1_numbers p1_rows p1_sizes p1_acts = some o) : Met l yX4_weakest (Cond.code yX4_weakest cX4_weakest 6 (some .int) :: Tw) ⟨2, 0, 0, 48⟩ (va_Pc [.ref ((a_t 0)), .ref ((a_p1 0))] (roB g [((a_t 0), .inr (3, [.ref (a_t 1), .ref (a_t 2), .long t_det])), ((a_t 2), .inl (g.2.2.1 1, 3, .inr (.inl t_parts))), ((a_p1 0), .inr (1, [.ref (a_p1 1), .ref (a_p1 2), .ref (a_p1 3), .ref (a_p1 4), .ref (a_p1 5), .int p1_told, .int p1_lines, .int p1_kinds, .int p1_acts])), ((a_p1 1), .inl (g.2.2.1 0, 15, .inl p1_numbers)), ((a_p1 3), .inl (g.2.2.1 0, 31, .inl p1_rows)), ((a_p1 4), .inl (g.2.2.1 0, 31, .inl p1_sizes))])) (vp_Si (fun x => x = o)) 0 0 (fun _ => False) := by
  refine ro_meti (by decide) (Nat.le_of_ble_eq_true rfl) (lv0 := [(0, .ref ((a_t 0))), (1, .ref ((a_p1 0)))]) rfl ?_
  intro p e s m args below meth c ls Q cx hret hG hP hl
  have hx := cx.1
  have hb := cx.2.1
  have hG0 := hG
  have w63 : ∀ (k4 : (Nat → Int64) → (Nat → Int32) → (Nat → Int32) → (Nat → Int32) → Int32 → Int32 → Int32 → Option (Int32)) (hk4 : ∀ (v2 : Int32) (v3 : Int32) (ls : Array Slot), lv_has ls 6 [(0, .ref ((a_t 0))), (1, .ref ((a_p1 0))), (2, .int v2), (3, .int v3)] → k4 t_parts p1_numbers p1_rows p1_sizes p1_acts v2 v3 = some o → W p l e ⟨2, 0, 0, 48⟩ s m args below meth c s.heap [] 0 0 Q (F0 m 4 ls [])) (v2 : Int32) (v3 : Int32) (ls : Array Slot), lv_has ls 6 [(0, .ref ((a_t 0))), (1, .ref ((a_p1 0))), (2, .int v2), (3, .int v3)] → fX4_weakest_63 k4 t_parts p1_numbers p1_rows p1_sizes p1_acts v2 v3 = some o → W p l e ⟨2, 0, 0, 48⟩ s m args below meth c s.heap [] 0 0 Q (F0 m 63 ls []) := by
    intro k4 hk4 v2 v3 ls hl h
    unfold fX4_weakest_63 at h
    refine lv_iinc (v := v3 + 1) (lv' := [(3, .int (v3 + 1)), (0, .ref ((a_t 0))), (1, .ref ((a_p1 0))), (2, .int v2)]) hx hb dX4_weakest_63 hl (k := 3) rfl rfl (by decide) rfl (fun ls hl => ?_)
    refine lv_goto (tgt := 4) hx hb dX4_weakest_66 (by decide) ?_
    exact hk4 v2 (v3 + 1) _ (lv_sub hl [1, 2, 3, 0] rfl) h
  have w61 : ∀ (k4 : (Nat → Int64) → (Nat → Int32) → (Nat → Int32) → (Nat → Int32) → Int32 → Int32 → Int32 → Option (Int32)) (hk4 : ∀ (v2 : Int32) (v3 : Int32) (ls : Array Slot), lv_has ls 6 [(0, .ref ((a_t 0))), (1, .ref ((a_p1 0))), (2, .int v2), (3, .int v3)] → k4 t_parts p1_numbers p1_rows p1_sizes p1_acts v2 v3 = some o → W p l e ⟨2, 0, 0, 48⟩ s m args below meth c s.heap [] 0 0 Q (F0 m 4 ls [])) (v3 : Int32) (ls : Array Slot), lv_has ls 6 [(0, .ref ((a_t 0))), (1, .ref ((a_p1 0))), (3, .int v3)] → fX4_weakest_61 k4 t_parts p1_numbers p1_rows p1_sizes p1_acts v3 = some o → W p l e ⟨2, 0, 0, 48⟩ s m args below meth c s.heap [] 0 0 Q (F0 m 61 ls []) := by
    intro k4 hk4 v3 ls hl h
    unfold fX4_weakest_61 at h
    refine lv_iload_n hx hb dX4_weakest_61 rfl (lv_at hl 2 rfl) ?_
    refine lv_istore_n (lv' := [(2, .int v3), (0, .ref ((a_t 0))), (1, .ref ((a_p1 0))), (3, .int v3)]) hx hb dX4_weakest_62 rfl hl (by decide) rfl (fun ls hl => ?_)
    exact w63 _ hk4 v3 v3 _ (lv_sub hl [1, 2, 0, 3] rfl) h
  have w4 : ∀ (n : Nat) (v2 : Int32) (v3 : Int32) (ls : Array Slot), lv_has ls 6 [(0, .ref ((a_t 0))), (1, .ref ((a_p1 0))), (2, .int v2), (3, .int v3)] → fX4_weakest_4  n t_parts p1_numbers p1_rows p1_sizes p1_acts v2 v3 = some o → W p l e ⟨2, 0, 0, 48⟩ s m args below meth c s.heap [] 0 0 Q (F0 m 4 ls []) := by
    intro n
    induction n with
    | zero => intro v2 v3 ls hl h; cases (fX4_weakest_4_z  t_parts p1_numbers p1_rows p1_sizes p1_acts v2 v3).symm.trans h
    | succ n ih =>
    intro v2 v3 ls hl h
    have h := (fX4_weakest_4_s  n t_parts p1_numbers p1_rows p1_sizes p1_acts v2 v3).symm.trans h
    refine lv_iload_n hx hb dX4_weakest_4 rfl (lv_at hl 3 rfl) ?_
    refine lv_aload_n hx hb dX4_weakest_5 rfl (lv_at hl 1 rfl) ?_
    obtain ⟨r1, hr2, h⟩ := bnd h
    refine ro_i (runVN (As := []) (rest := [.int v3]) hG cx hl.1 (ctX1_plies l g a_p1 p1_told p1_lines p1_kinds p1_acts p1_sizes r1 hr2) kmX1_plies kvX1_plies nm_43 ⟨rfl, rfl⟩ ⟨Nat.le_of_ble_eq_true rfl, Nat.le_of_ble_eq_true rfl⟩ (roV (q0 := 2) (ci := 1) hG (hP.sub [2, 5] rfl) hP rfl rfl) rfl rfl (Nat.le_of_ble_eq_true rfl) dX4_weakest_6 ⟨Nat.le_of_ble_eq_true rfl, Nat.le_of_ble_eq_true rfl⟩) ?_
    refine lv_icmp_ge (tgt := 69) hx hb dX4_weakest_9 (by decide) (fun c3 => ?_) (fun c3 => ?_)
    · have h := itp c3 h
      refine lv_iload_n hx hb dX4_weakest_69 rfl (lv_at hl 2 rfl) ?_
      exact hret _ _ _ dX4_weakest_70 (Option.some.inj h)
    · have h := itn c3 h
      refine lv_aload_n hx hb dX4_weakest_12 rfl (lv_at hl 0 rfl) ?_
      refine lv_aload_n hx hb dX4_weakest_13 rfl (lv_at hl 1 rfl) ?_
      refine lv_iload_n hx hb dX4_weakest_14 rfl (lv_at hl 3 rfl) ?_
      obtain ⟨r4, hr5, h⟩ := bnd h
      refine ro_l (runV (As := [.ref ((a_p1 0)), .int v3]) (rest := []) cx hl.1 (ctX4_strainedAt l g a_t a_p1 t_det t_parts p1_told p1_lines p1_kinds p1_acts p1_rows v3 r4 hr5) kmX4_strainedAt kvX4_strainedAt lm_X4_64 ⟨rfl, rfl⟩ ⟨Nat.le_of_ble_eq_true rfl, Nat.le_of_ble_eq_true rfl⟩ (roV (q0 := 0) (ci := 3) hG (hP.sub [0, 1, 2, 4] rfl) hP rfl rfl) rfl rfl (Nat.le_of_ble_eq_true rfl) dX4_weakest_15 ⟨Nat.le_of_ble_eq_true rfl, Nat.le_of_ble_eq_true rfl⟩) ?_
      refine lv_lstore (lv' := [(4, .long r4), (0, .ref ((a_t 0))), (1, .ref ((a_p1 0))), (2, .int v2), (3, .int v3)]) hx hb dX4_weakest_18 hl (by decide) rfl (fun ls hl => ?_)
      refine lv_lload hx hb dX4_weakest_20 (lv_at hl 0 rfl) ?_
      refine lv_lconst (v := 0) hx hb dX4_weakest_22 (by decide) ?_
      refine W.lcmp hx hb dX4_weakest_23 ?_
      refine lv_if_ne (tgt := 30) hx hb dX4_weakest_24 (by decide) (fun c6 => ?_) (fun c6 => ?_)
      · have h := itn c6 h
        refine lv_iload_n hx hb dX4_weakest_30 rfl (lv_at hl 3 rfl) ?_
        refine lv_iconst (v := -1) hx hb dX4_weakest_31 (by decide) ?_
        refine lv_icmp_eq (tgt := 61) hx hb dX4_weakest_32 (by decide) (fun c7 => ?_) (fun c7 => ?_)
        · have h := itp c7 h
          exact w61 _ ih v3 _ (lv_sub hl [1, 2, 4] rfl) h
        · have h := itn c7 h
          refine lv_aload_n hx hb dX4_weakest_35 rfl (lv_at hl 2 rfl) ?_
          refine lv_iload_n hx hb dX4_weakest_36 rfl (lv_at hl 4 rfl) ?_
          obtain ⟨r8, hr9, h⟩ := bnd h
          refine ro_i (runVN (As := [.int v3]) (rest := []) hG cx hl.1 (ctX1_limitAt l g a_p1 p1_told p1_lines p1_kinds p1_acts p1_numbers p1_rows v3 r8 hr9) kmX1_limitAt kvX1_limitAt nm_46 ⟨rfl, rfl⟩ ⟨Nat.le_of_ble_eq_true rfl, Nat.le_of_ble_eq_true rfl⟩ (roV (q0 := 2) (ci := 1) hG (hP.sub [2, 3, 4] rfl) hP rfl rfl) rfl rfl (Nat.le_of_ble_eq_true rfl) dX4_weakest_37 ⟨Nat.le_of_ble_eq_true rfl, Nat.le_of_ble_eq_true rfl⟩) ?_
          refine lv_i2l (v := r8.toInt64) hx hb dX4_weakest_40 rfl ?_
          refine lv_aload_n hx hb dX4_weakest_41 rfl (lv_at hl 1 rfl) ?_
          refine lv_aload_n hx hb dX4_weakest_42 rfl (lv_at hl 2 rfl) ?_
          refine lv_iload_n hx hb dX4_weakest_43 rfl (lv_at hl 3 rfl) ?_
          obtain ⟨r10, hr11, h⟩ := bnd h
          refine ro_l (runV (As := [.ref ((a_p1 0)), .int v2]) (rest := [.long r8.toInt64]) cx hl.1 (ctX4_strainedAt l g a_t a_p1 t_det t_parts p1_told p1_lines p1_kinds p1_acts p1_rows v2 r10 hr11) kmX4_strainedAt kvX4_strainedAt lm_X4_64 ⟨rfl, rfl⟩ ⟨Nat.le_of_ble_eq_true rfl, Nat.le_of_ble_eq_true rfl⟩ (roV (q0 := 0) (ci := 3) hG (hP.sub [0, 1, 2, 4] rfl) hP rfl rfl) rfl rfl (Nat.le_of_ble_eq_true rfl) dX4_weakest_44 ⟨Nat.le_of_ble_eq_true rfl, Nat.le_of_ble_eq_true rfl⟩) ?_
          refine lv_lmul hx hb dX4_weakest_47 ?_
          refine lv_aload_n hx hb dX4_weakest_48 rfl (lv_at hl 2 rfl) ?_
          refine lv_iload_n hx hb dX4_weakest_49 rfl (lv_at hl 3 rfl) ?_
          obtain ⟨r12, hr13, h⟩ := bnd h
          refine ro_i (runVN (As := [.int v2]) (rest := [.long (r8.toInt64 * r10)]) hG cx hl.1 (ctX1_limitAt l g a_p1 p1_told p1_lines p1_kinds p1_acts p1_numbers p1_rows v2 r12 hr13) kmX1_limitAt kvX1_limitAt nm_46 ⟨rfl, rfl⟩ ⟨Nat.le_of_ble_eq_true rfl, Nat.le_of_ble_eq_true rfl⟩ (roV (q0 := 2) (ci := 1) hG (hP.sub [2, 3, 4] rfl) hP rfl rfl) rfl rfl (Nat.le_of_ble_eq_true rfl) dX4_weakest_50 ⟨Nat.le_of_ble_eq_true rfl, Nat.le_of_ble_eq_true rfl⟩) ?_
          refine lv_i2l (v := r12.toInt64) hx hb dX4_weakest_53 rfl ?_
          refine lv_lload hx hb dX4_weakest_54 (lv_at hl 0 rfl) ?_
          refine lv_lmul hx hb dX4_weakest_56 ?_
          refine W.lcmp hx hb dX4_weakest_57 ?_
          refine lv_if_ge (tgt := 63) hx hb dX4_weakest_58 (by decide) (fun c14 => ?_) (fun c14 => ?_)
          · have h := itp c14 h
            exact w63 _ ih v2 v3 _ (lv_sub hl [1, 2, 3, 4] rfl) h
          · have h := itn c14 h
            exact w61 _ ih v3 _ (lv_sub hl [1, 2, 4] rfl) h
      · have h := itp c6 h
        refine lv_goto (tgt := 63) hx hb dX4_weakest_27 (by decide) ?_
        exact w63 _ ih v2 v3 _ (lv_sub hl [1, 2, 3, 4] rfl) h
  unfold fX4_weakest at h
  refine lv_iconst (v := -1) hx hb dX4_weakest_0 (by decide) ?_
  refine lv_istore_n (lv' := [(2, .int (-1)), (0, .ref ((a_t 0))), (1, .ref ((a_p1 0)))]) hx hb dX4_weakest_1 rfl hl (by decide) rfl (fun ls hl => ?_)
  refine lv_iconst (v := 0) hx hb dX4_weakest_2 (by decide) ?_
  refine lv_istore_n (lv' := [(3, .int (0)), (2, .int (-1)), (0, .ref ((a_t 0))), (1, .ref ((a_p1 0)))]) hx hb dX4_weakest_3 rfl hl (by decide) rfl (fun ls hl => ?_)
  exact w4 FU (-1) 0 _ (lv_sub hl [2, 3, 1, 0] rfl) h
-- X4_greatestTimes
theorem dX4_greatestTimes_0 : decode cX4_greatestTimes 0 = .ok (.iload_n 2, 1) := by decide +kernel
theorem dX4_greatestTimes_1 : decode cX4_greatestTimes 1 = .ok (.i2l, 1) := by decide +kernel
theorem dX4_greatestTimes_2 : decode cX4_greatestTimes 2 = .ok (.lstore_n 3, 1) := by decide +kernel
theorem dX4_greatestTimes_3 : decode cX4_greatestTimes 3 = .ok (.iconst 0, 1) := by decide +kernel
theorem dX4_greatestTimes_4 : decode cX4_greatestTimes 4 = .ok (.istore 5, 2) := by decide +kernel
theorem dX4_greatestTimes_6 : decode cX4_greatestTimes 6 = .ok (.iload 5, 2) := by decide +kernel
theorem dX4_greatestTimes_8 : decode cX4_greatestTimes 8 = .ok (.aload_n 1, 1) := by decide +kernel
theorem dX4_greatestTimes_9 : decode cX4_greatestTimes 9 = .ok (.invokevirtual 61, 3) := by decide +kernel
theorem dX4_greatestTimes_12 : decode cX4_greatestTimes 12 = .ok (.if_icmp .ge 40, 3) := by decide +kernel
theorem dX4_greatestTimes_15 : decode cX4_greatestTimes 15 = .ok (.aload_n 0, 1) := by decide +kernel
theorem dX4_greatestTimes_16 : decode cX4_greatestTimes 16 = .ok (.aload_n 1, 1) := by decide +kernel
theorem dX4_greatestTimes_17 : decode cX4_greatestTimes 17 = .ok (.iload 5, 2) := by decide +kernel
theorem dX4_greatestTimes_19 : decode cX4_greatestTimes 19 = .ok (.invokevirtual 64, 3) := by decide +kernel
theorem dX4_greatestTimes_22 : decode cX4_greatestTimes 22 = .ok (.lstore 6, 2) := by decide +kernel
theorem dX4_greatestTimes_24 : decode cX4_greatestTimes 24 = .ok (.lload 6, 2) := by decide +kernel
theorem dX4_greatestTimes_26 : decode cX4_greatestTimes 26 = .ok (.lconst 0, 1) := by decide +kernel
theorem dX4_greatestTimes_27 : decode cX4_greatestTimes 27 = .ok (.lcmp, 1) := by decide +kernel
theorem dX4_greatestTimes_28 : decode cX4_greatestTimes 28 = .ok (.ifCond .eq 18, 3) := by decide +kernel
theorem dX4_greatestTimes_31 : decode cX4_greatestTimes 31 = .ok (.lload_n 3, 1) := by decide +kernel
theorem dX4_greatestTimes_32 : decode cX4_greatestTimes 32 = .ok (.aload_n 0, 1) := by decide +kernel
theorem dX4_greatestTimes_33 : decode cX4_greatestTimes 33 = .ok (.aload_n 1, 1) := by decide +kernel
theorem dX4_greatestTimes_34 : decode cX4_greatestTimes 34 = .ok (.iload 5, 2) := by decide +kernel
theorem dX4_greatestTimes_36 : decode cX4_greatestTimes 36 = .ok (.invokevirtual 68, 3) := by decide +kernel
theorem dX4_greatestTimes_39 : decode cX4_greatestTimes 39 = .ok (.lload 6, 2) := by decide +kernel
theorem dX4_greatestTimes_41 : decode cX4_greatestTimes 41 = .ok (.ldiv, 1) := by decide +kernel
theorem dX4_greatestTimes_42 : decode cX4_greatestTimes 42 = .ok (.invokestatic 71, 3) := by decide +kernel
theorem dX4_greatestTimes_45 : decode cX4_greatestTimes 45 = .ok (.lstore_n 3, 1) := by decide +kernel
theorem dX4_greatestTimes_46 : decode cX4_greatestTimes 46 = .ok (.iinc 5 1, 3) := by decide +kernel
theorem dX4_greatestTimes_49 : decode cX4_greatestTimes 49 = .ok (.goto (-43), 3) := by decide +kernel
theorem dX4_greatestTimes_52 : decode cX4_greatestTimes 52 = .ok (.lload_n 3, 1) := by decide +kernel
theorem dX4_greatestTimes_53 : decode cX4_greatestTimes 53 = .ok (.l2i, 1) := by decide +kernel
theorem dX4_greatestTimes_54 : decode cX4_greatestTimes 54 = .ok (.ireturn, 1) := by decide +kernel
noncomputable def fX4_greatestTimes_46 (k6 : (Nat → Int64) → Int64 → (Nat → Int32) → (Nat → Int32) → (Nat → Int32) → Int32 → Int64 → Int32 → Option (Int32)) (t_parts : Nat → Int64) (t_det : Int64) (p1_numbers : Nat → Int32) (p1_rows : Nat → Int32) (p1_sizes : Nat → Int32) (p1_acts : Int32) (v3 : Int64) (v5 : Int32) : Option (Int32) := k6 t_parts t_det p1_numbers p1_rows p1_sizes p1_acts v3 (v5 + 1)
noncomputable def fX4_greatestTimes_6  : Nat → (Nat → Int64) → Int64 → (Nat → Int32) → (Nat → Int32) → (Nat → Int32) → Int32 → Int64 → Int32 → Option (Int32)
  | 0, _, _, _, _, _, _, _, _ => none
  | n + 1, t_parts, t_det, p1_numbers, p1_rows, p1_sizes, p1_acts, v3, v5 => (fX1_plies p1_sizes p1_acts).bind fun r1 => (if r1 ≤ v5 then some v3.toInt32 else (fX4_strainedAt t_parts p1_rows p1_acts v5).bind fun r4 => (if (lg_cmp r4 0) = 0 then fX4_greatestTimes_46 (fX4_greatestTimes_6 n) t_parts t_det p1_numbers p1_rows p1_sizes p1_acts v3 v5 else (fX4_bound t_det p1_numbers p1_rows p1_acts v5).bind fun r7 => nz r4 (fX4_greatestTimes_46 (fX4_greatestTimes_6 n) t_parts t_det p1_numbers p1_rows p1_sizes p1_acts (lmin v3 (r7 / r4)) v5)))
theorem fX4_greatestTimes_6_z  (t_parts : Nat → Int64) (t_det : Int64) (p1_numbers : Nat → Int32) (p1_rows : Nat → Int32) (p1_sizes : Nat → Int32) (p1_acts : Int32) (v3 : Int64) (v5 : Int32) : fX4_greatestTimes_6  0 t_parts t_det p1_numbers p1_rows p1_sizes p1_acts v3 v5 = none := rfl
theorem fX4_greatestTimes_6_s  (n : Nat) (t_parts : Nat → Int64) (t_det : Int64) (p1_numbers : Nat → Int32) (p1_rows : Nat → Int32) (p1_sizes : Nat → Int32) (p1_acts : Int32) (v3 : Int64) (v5 : Int32) : fX4_greatestTimes_6  (n + 1) t_parts t_det p1_numbers p1_rows p1_sizes p1_acts v3 v5 = (fX1_plies p1_sizes p1_acts).bind fun r1 => (if r1 ≤ v5 then some v3.toInt32 else (fX4_strainedAt t_parts p1_rows p1_acts v5).bind fun r4 => (if (lg_cmp r4 0) = 0 then fX4_greatestTimes_46 (fX4_greatestTimes_6 n) t_parts t_det p1_numbers p1_rows p1_sizes p1_acts v3 v5 else (fX4_bound t_det p1_numbers p1_rows p1_acts v5).bind fun r7 => nz r4 (fX4_greatestTimes_46 (fX4_greatestTimes_6 n) t_parts t_det p1_numbers p1_rows p1_sizes p1_acts (lmin v3 (r7 / r4)) v5))) := rfl
noncomputable def fX4_greatestTimes  (t_parts : Nat → Int64) (t_det : Int64) (p1_numbers : Nat → Int32) (p1_rows : Nat → Int32) (p1_sizes : Nat → Int32) (p1_acts : Int32) (v2 : Int32) : Option (Int32) := fX4_greatestTimes_6 FU t_parts t_det p1_numbers p1_rows p1_sizes p1_acts v2.toInt64 0
set_option maxHeartbeats 4000000 in
set_option maxRecDepth 100000 in
theorem ctX4_greatestTimes (l : Launch) (g : GT) (a_t : Nat → Nat) (a_p1 : Nat → Nat) (t_det : Int64) (t_parts : Nat → Int64) (p1_told : Int32) (p1_lines : Int32) (p1_kinds : Int32) (p1_acts : Int32) (p1_numbers : Nat → Int32) (p1_rows : Nat → Int32) (p1_sizes : Nat → Int32) (v2 : Int32) (o : Int32) (h : fX4_greatestTimes t_parts t_det p1_numbers p1_rows p1_sizes p1_acts v2 = some o) : Met l yX4_greatestTimes (Cond.code yX4_greatestTimes cX4_greatestTimes 8 (some .int) :: Tw) ⟨3, 0, 0, 65⟩ (va_Pc [.ref ((a_t 0)), .ref ((a_p1 0)), .int v2] (roB g [((a_t 0), .inr (3, [.ref (a_t 1), .ref (a_t 2), .long t_det])), ((a_t 2), .inl (g.2.2.1 1, 3, .inr (.inl t_parts))), ((a_p1 0), .inr (1, [.ref (a_p1 1), .ref (a_p1 2), .ref (a_p1 3), .ref (a_p1 4), .ref (a_p1 5), .int p1_told, .int p1_lines, .int p1_kinds, .int p1_acts])), ((a_p1 1), .inl (g.2.2.1 0, 15, .inl p1_numbers)), ((a_p1 3), .inl (g.2.2.1 0, 31, .inl p1_rows)), ((a_p1 4), .inl (g.2.2.1 0, 31, .inl p1_sizes))])) (vp_Si (fun x => x = o)) 0 0 (fun _ => False) := by
  refine ro_meti (by decide) (Nat.le_of_ble_eq_true rfl) (lv0 := [(0, .ref ((a_t 0))), (1, .ref ((a_p1 0))), (2, .int v2)]) rfl ?_
  intro p e s m args below meth c ls Q cx hret hG hP hl
  have hx := cx.1
  have hb := cx.2.1
  have hG0 := hG
  have w46 : ∀ (k6 : (Nat → Int64) → Int64 → (Nat → Int32) → (Nat → Int32) → (Nat → Int32) → Int32 → Int64 → Int32 → Option (Int32)) (hk6 : ∀ (v3 : Int64) (v5 : Int32) (ls : Array Slot), lv_has ls 8 [(0, .ref ((a_t 0))), (1, .ref ((a_p1 0))), (3, .long v3), (5, .int v5)] → k6 t_parts t_det p1_numbers p1_rows p1_sizes p1_acts v3 v5 = some o → W p l e ⟨3, 0, 0, 65⟩ s m args below meth c s.heap [] 0 0 Q (F0 m 6 ls [])) (v3 : Int64) (v5 : Int32) (ls : Array Slot), lv_has ls 8 [(0, .ref ((a_t 0))), (1, .ref ((a_p1 0))), (3, .long v3), (5, .int v5)] → fX4_greatestTimes_46 k6 t_parts t_det p1_numbers p1_rows p1_sizes p1_acts v3 v5 = some o → W p l e ⟨3, 0, 0, 65⟩ s m args below meth c s.heap [] 0 0 Q (F0 m 46 ls []) := by
    intro k6 hk6 v3 v5 ls hl h
    unfold fX4_greatestTimes_46 at h
    refine lv_iinc (v := v5 + 1) (lv' := [(5, .int (v5 + 1)), (0, .ref ((a_t 0))), (1, .ref ((a_p1 0))), (3, .long v3)]) hx hb dX4_greatestTimes_46 hl (k := 3) rfl rfl (by decide) rfl (fun ls hl => ?_)
    refine lv_goto (tgt := 6) hx hb dX4_greatestTimes_49 (by decide) ?_
    exact hk6 v3 (v5 + 1) _ (lv_sub hl [1, 2, 3, 0] rfl) h
  have w6 : ∀ (n : Nat) (v3 : Int64) (v5 : Int32) (ls : Array Slot), lv_has ls 8 [(0, .ref ((a_t 0))), (1, .ref ((a_p1 0))), (3, .long v3), (5, .int v5)] → fX4_greatestTimes_6  n t_parts t_det p1_numbers p1_rows p1_sizes p1_acts v3 v5 = some o → W p l e ⟨3, 0, 0, 65⟩ s m args below meth c s.heap [] 0 0 Q (F0 m 6 ls []) := by
    intro n
    induction n with
    | zero => intro v3 v5 ls hl h; cases (fX4_greatestTimes_6_z  t_parts t_det p1_numbers p1_rows p1_sizes p1_acts v3 v5).symm.trans h
    | succ n ih =>
    intro v3 v5 ls hl h
    have h := (fX4_greatestTimes_6_s  n t_parts t_det p1_numbers p1_rows p1_sizes p1_acts v3 v5).symm.trans h
    refine lv_iload hx hb dX4_greatestTimes_6 (lv_at hl 3 rfl) ?_
    refine lv_aload_n hx hb dX4_greatestTimes_8 rfl (lv_at hl 1 rfl) ?_
    obtain ⟨r1, hr2, h⟩ := bnd h
    refine ro_i (runVN (As := []) (rest := [.int v5]) hG cx hl.1 (ctX1_plies l g a_p1 p1_told p1_lines p1_kinds p1_acts p1_sizes r1 hr2) kmX1_plies kvX1_plies nm_43 ⟨rfl, rfl⟩ ⟨Nat.le_of_ble_eq_true rfl, Nat.le_of_ble_eq_true rfl⟩ (roV (q0 := 2) (ci := 1) hG (hP.sub [2, 5] rfl) hP rfl rfl) rfl rfl (Nat.le_of_ble_eq_true rfl) dX4_greatestTimes_9 ⟨Nat.le_of_ble_eq_true rfl, Nat.le_of_ble_eq_true rfl⟩) ?_
    refine lv_icmp_ge (tgt := 52) hx hb dX4_greatestTimes_12 (by decide) (fun c3 => ?_) (fun c3 => ?_)
    · have h := itp c3 h
      refine lv_lload_n hx hb dX4_greatestTimes_52 rfl (lv_at hl 2 rfl) ?_
      refine lv_l2i (v := v3.toInt32) hx hb dX4_greatestTimes_53 rfl ?_
      exact hret _ _ _ dX4_greatestTimes_54 (Option.some.inj h)
    · have h := itn c3 h
      refine lv_aload_n hx hb dX4_greatestTimes_15 rfl (lv_at hl 0 rfl) ?_
      refine lv_aload_n hx hb dX4_greatestTimes_16 rfl (lv_at hl 1 rfl) ?_
      refine lv_iload hx hb dX4_greatestTimes_17 (lv_at hl 3 rfl) ?_
      obtain ⟨r4, hr5, h⟩ := bnd h
      refine ro_l (runV (As := [.ref ((a_p1 0)), .int v5]) (rest := []) cx hl.1 (ctX4_strainedAt l g a_t a_p1 t_det t_parts p1_told p1_lines p1_kinds p1_acts p1_rows v5 r4 hr5) kmX4_strainedAt kvX4_strainedAt lm_X4_64 ⟨rfl, rfl⟩ ⟨Nat.le_of_ble_eq_true rfl, Nat.le_of_ble_eq_true rfl⟩ (roV (q0 := 0) (ci := 3) hG (hP.sub [0, 1, 2, 4] rfl) hP rfl rfl) rfl rfl (Nat.le_of_ble_eq_true rfl) dX4_greatestTimes_19 ⟨Nat.le_of_ble_eq_true rfl, Nat.le_of_ble_eq_true rfl⟩) ?_
      refine lv_lstore (lv' := [(6, .long r4), (0, .ref ((a_t 0))), (1, .ref ((a_p1 0))), (3, .long v3), (5, .int v5)]) hx hb dX4_greatestTimes_22 hl (by decide) rfl (fun ls hl => ?_)
      refine lv_lload hx hb dX4_greatestTimes_24 (lv_at hl 0 rfl) ?_
      refine lv_lconst (v := 0) hx hb dX4_greatestTimes_26 (by decide) ?_
      refine W.lcmp hx hb dX4_greatestTimes_27 ?_
      refine lv_if_eq (tgt := 46) hx hb dX4_greatestTimes_28 (by decide) (fun c6 => ?_) (fun c6 => ?_)
      · have h := itp c6 h
        exact w46 _ ih v3 v5 _ (lv_sub hl [1, 2, 3, 4] rfl) h
      · have h := itn c6 h
        refine lv_lload_n hx hb dX4_greatestTimes_31 rfl (lv_at hl 3 rfl) ?_
        refine lv_aload_n hx hb dX4_greatestTimes_32 rfl (lv_at hl 1 rfl) ?_
        refine lv_aload_n hx hb dX4_greatestTimes_33 rfl (lv_at hl 2 rfl) ?_
        refine lv_iload hx hb dX4_greatestTimes_34 (lv_at hl 4 rfl) ?_
        obtain ⟨r7, hr8, h⟩ := bnd h
        refine ro_l (runV (As := [.ref ((a_p1 0)), .int v5]) (rest := [.long v3]) cx hl.1 (ctX4_bound l g a_t a_p1 t_det p1_told p1_lines p1_kinds p1_acts p1_numbers p1_rows v5 r7 hr8) kmX4_bound kvX4_bound lm_X4_68 ⟨rfl, rfl⟩ ⟨Nat.le_of_ble_eq_true rfl, Nat.le_of_ble_eq_true rfl⟩ (roV (q0 := 0) (ci := 3) hG (hP.sub [0, 2, 3, 4] rfl) hP rfl rfl) rfl rfl (Nat.le_of_ble_eq_true rfl) dX4_greatestTimes_36 ⟨Nat.le_of_ble_eq_true rfl, Nat.le_of_ble_eq_true rfl⟩) ?_
        refine lv_lload hx hb dX4_greatestTimes_39 (lv_at hl 0 rfl) ?_
        obtain ⟨hz9, h⟩ := nz_out h
        refine lv_ldiv hx hb dX4_greatestTimes_41 hz9 ?_
        refine xm_lmin cx hl.1 lm_X4_71 ⟨ksJ9_min_f86c9, kmJ9_min_f86c9.2.1, kmJ9_min_f86c9.1⟩ (Nat.le_of_ble_eq_true rfl) (Nat.le_of_ble_eq_true rfl) (Nat.le_of_ble_eq_true rfl) (Nat.le_of_ble_eq_true rfl) dX4_greatestTimes_42 ?_
        refine lv_lstore_n (lv' := [(3, .long (lmin v3 (r7 / r4))), (6, .long r4), (0, .ref ((a_t 0))), (1, .ref ((a_p1 0))), (5, .int v5)]) hx hb dX4_greatestTimes_45 rfl hl (by decide) rfl (fun ls hl => ?_)
        exact w46 _ ih (lmin v3 (r7 / r4)) v5 _ (lv_sub hl [2, 3, 0, 4] rfl) h
  unfold fX4_greatestTimes at h
  refine lv_iload_n hx hb dX4_greatestTimes_0 rfl (lv_at hl 2 rfl) ?_
  refine lv_i2l (v := v2.toInt64) hx hb dX4_greatestTimes_1 rfl ?_
  refine lv_lstore_n (lv' := [(3, .long v2.toInt64), (0, .ref ((a_t 0))), (1, .ref ((a_p1 0))), (2, .int v2)]) hx hb dX4_greatestTimes_2 rfl hl (by decide) rfl (fun ls hl => ?_)
  refine lv_iconst (v := 0) hx hb dX4_greatestTimes_3 (by decide) ?_
  refine lv_istore (lv' := [(5, .int (0)), (3, .long v2.toInt64), (0, .ref ((a_t 0))), (1, .ref ((a_p1 0))), (2, .int v2)]) hx hb dX4_greatestTimes_4 hl (by decide) rfl (fun ls hl => ?_)
  exact w6 FU v2.toInt64 0 _ (lv_sub hl [2, 3, 1, 0] rfl) h
-- X4_withinLimits
theorem dX4_withinLimits_0 : decode cX4_withinLimits 0 = .ok (.aload_n 0, 1) := by decide +kernel
theorem dX4_withinLimits_1 : decode cX4_withinLimits 1 = .ok (.aload_n 1, 1) := by decide +kernel
theorem dX4_withinLimits_2 : decode cX4_withinLimits 2 = .ok (.iconst 0, 1) := by decide +kernel
theorem dX4_withinLimits_3 : decode cX4_withinLimits 3 = .ok (.iload_n 2, 1) := by decide +kernel
theorem dX4_withinLimits_4 : decode cX4_withinLimits 4 = .ok (.invokevirtual 75, 3) := by decide +kernel
theorem dX4_withinLimits_7 : decode cX4_withinLimits 7 = .ok (.aload_n 0, 1) := by decide +kernel
theorem dX4_withinLimits_8 : decode cX4_withinLimits 8 = .ok (.getfield 28, 3) := by decide +kernel
theorem dX4_withinLimits_11 : decode cX4_withinLimits 11 = .ok (.lconst 0, 1) := by decide +kernel
theorem dX4_withinLimits_12 : decode cX4_withinLimits 12 = .ok (.lcmp, 1) := by decide +kernel
theorem dX4_withinLimits_13 : decode cX4_withinLimits 13 = .ok (.ifCond .ne 5, 3) := by decide +kernel
theorem dX4_withinLimits_16 : decode cX4_withinLimits 16 = .ok (.iconst 0, 1) := by decide +kernel
theorem dX4_withinLimits_17 : decode cX4_withinLimits 17 = .ok (.ireturn, 1) := by decide +kernel
theorem dX4_withinLimits_18 : decode cX4_withinLimits 18 = .ok (.aload_n 0, 1) := by decide +kernel
theorem dX4_withinLimits_19 : decode cX4_withinLimits 19 = .ok (.iload_n 3, 1) := by decide +kernel
theorem dX4_withinLimits_20 : decode cX4_withinLimits 20 = .ok (.iload 4, 2) := by decide +kernel
theorem dX4_withinLimits_22 : decode cX4_withinLimits 22 = .ok (.iload 5, 2) := by decide +kernel
theorem dX4_withinLimits_24 : decode cX4_withinLimits 24 = .ok (.invokevirtual 79, 3) := by decide +kernel
theorem dX4_withinLimits_27 : decode cX4_withinLimits 27 = .ok (.iconst 0, 1) := by decide +kernel
theorem dX4_withinLimits_28 : decode cX4_withinLimits 28 = .ok (.istore 6, 2) := by decide +kernel
theorem dX4_withinLimits_30 : decode cX4_withinLimits 30 = .ok (.iload 6, 2) := by decide +kernel
theorem dX4_withinLimits_32 : decode cX4_withinLimits 32 = .ok (.aload_n 1, 1) := by decide +kernel
theorem dX4_withinLimits_33 : decode cX4_withinLimits 33 = .ok (.invokevirtual 61, 3) := by decide +kernel
theorem dX4_withinLimits_36 : decode cX4_withinLimits 36 = .ok (.if_icmp .ge 38, 3) := by decide +kernel
theorem dX4_withinLimits_39 : decode cX4_withinLimits 39 = .ok (.iload_n 2, 1) := by decide +kernel
theorem dX4_withinLimits_40 : decode cX4_withinLimits 40 = .ok (.iload 6, 2) := by decide +kernel
theorem dX4_withinLimits_42 : decode cX4_withinLimits 42 = .ok (.ishr, 1) := by decide +kernel
theorem dX4_withinLimits_43 : decode cX4_withinLimits 43 = .ok (.iconst 1, 1) := by decide +kernel
theorem dX4_withinLimits_44 : decode cX4_withinLimits 44 = .ok (.iand, 1) := by decide +kernel
theorem dX4_withinLimits_45 : decode cX4_withinLimits 45 = .ok (.ifCond .ne 23, 3) := by decide +kernel
theorem dX4_withinLimits_48 : decode cX4_withinLimits 48 = .ok (.aload_n 0, 1) := by decide +kernel
theorem dX4_withinLimits_49 : decode cX4_withinLimits 49 = .ok (.aload_n 1, 1) := by decide +kernel
theorem dX4_withinLimits_50 : decode cX4_withinLimits 50 = .ok (.iload 6, 2) := by decide +kernel
theorem dX4_withinLimits_52 : decode cX4_withinLimits 52 = .ok (.invokevirtual 64, 3) := by decide +kernel
theorem dX4_withinLimits_55 : decode cX4_withinLimits 55 = .ok (.aload_n 0, 1) := by decide +kernel
theorem dX4_withinLimits_56 : decode cX4_withinLimits 56 = .ok (.aload_n 1, 1) := by decide +kernel
theorem dX4_withinLimits_57 : decode cX4_withinLimits 57 = .ok (.iload 6, 2) := by decide +kernel
theorem dX4_withinLimits_59 : decode cX4_withinLimits 59 = .ok (.invokevirtual 68, 3) := by decide +kernel
theorem dX4_withinLimits_62 : decode cX4_withinLimits 62 = .ok (.lcmp, 1) := by decide +kernel
theorem dX4_withinLimits_63 : decode cX4_withinLimits 63 = .ok (.ifCond .le 5, 3) := by decide +kernel
theorem dX4_withinLimits_66 : decode cX4_withinLimits 66 = .ok (.iconst 0, 1) := by decide +kernel
theorem dX4_withinLimits_67 : decode cX4_withinLimits 67 = .ok (.ireturn, 1) := by decide +kernel
theorem dX4_withinLimits_68 : decode cX4_withinLimits 68 = .ok (.iinc 6 1, 3) := by decide +kernel
theorem dX4_withinLimits_71 : decode cX4_withinLimits 71 = .ok (.goto (-41), 3) := by decide +kernel
theorem dX4_withinLimits_74 : decode cX4_withinLimits 74 = .ok (.iconst 1, 1) := by decide +kernel
theorem dX4_withinLimits_75 : decode cX4_withinLimits 75 = .ok (.ireturn, 1) := by decide +kernel
noncomputable def fX4_withinLimits_68 (k30 : (Nat → Int64) → (Nat → Int64) → Int64 → (Nat → Int32) → (Nat → Int32) → (Nat → Int32) → Int32 → Int32 → Int32 → Option (Int32 × (Nat → Int64) × (Nat → Int64) × Int64)) (t_cells : Nat → Int64) (t_parts : Nat → Int64) (t_det : Int64) (p1_numbers : Nat → Int32) (p1_rows : Nat → Int32) (p1_sizes : Nat → Int32) (p1_acts : Int32) (v2 : Int32) (v6 : Int32) : Option (Int32 × (Nat → Int64) × (Nat → Int64) × Int64) := k30 t_cells t_parts t_det p1_numbers p1_rows p1_sizes p1_acts v2 (v6 + 1)
noncomputable def fX4_withinLimits_30  : Nat → (Nat → Int64) → (Nat → Int64) → Int64 → (Nat → Int32) → (Nat → Int32) → (Nat → Int32) → Int32 → Int32 → Int32 → Option (Int32 × (Nat → Int64) × (Nat → Int64) × Int64)
  | 0, _, _, _, _, _, _, _, _, _ => none
  | n + 1, t_cells, t_parts, t_det, p1_numbers, p1_rows, p1_sizes, p1_acts, v2, v6 => (fX1_plies p1_sizes p1_acts).bind fun r9 => (if r9 ≤ v6 then some ((1), t_cells, t_parts, t_det) else (if ((v2 >>> (v6 &&& 31)) &&& 1) = 0 then (fX4_strainedAt t_parts p1_rows p1_acts v6).bind fun r13 => (fX4_bound t_det p1_numbers p1_rows p1_acts v6).bind fun r15 => (if (lg_cmp r13 r15) ≤ 0 then fX4_withinLimits_68 (fX4_withinLimits_30 n) t_cells t_parts t_det p1_numbers p1_rows p1_sizes p1_acts v2 v6 else some ((0), t_cells, t_parts, t_det)) else fX4_withinLimits_68 (fX4_withinLimits_30 n) t_cells t_parts t_det p1_numbers p1_rows p1_sizes p1_acts v2 v6))
theorem fX4_withinLimits_30_z  (t_cells : Nat → Int64) (t_parts : Nat → Int64) (t_det : Int64) (p1_numbers : Nat → Int32) (p1_rows : Nat → Int32) (p1_sizes : Nat → Int32) (p1_acts : Int32) (v2 : Int32) (v6 : Int32) : fX4_withinLimits_30  0 t_cells t_parts t_det p1_numbers p1_rows p1_sizes p1_acts v2 v6 = none := rfl
theorem fX4_withinLimits_30_s  (n : Nat) (t_cells : Nat → Int64) (t_parts : Nat → Int64) (t_det : Int64) (p1_numbers : Nat → Int32) (p1_rows : Nat → Int32) (p1_sizes : Nat → Int32) (p1_acts : Int32) (v2 : Int32) (v6 : Int32) : fX4_withinLimits_30  (n + 1) t_cells t_parts t_det p1_numbers p1_rows p1_sizes p1_acts v2 v6 = (fX1_plies p1_sizes p1_acts).bind fun r9 => (if r9 ≤ v6 then some ((1), t_cells, t_parts, t_det) else (if ((v2 >>> (v6 &&& 31)) &&& 1) = 0 then (fX4_strainedAt t_parts p1_rows p1_acts v6).bind fun r13 => (fX4_bound t_det p1_numbers p1_rows p1_acts v6).bind fun r15 => (if (lg_cmp r13 r15) ≤ 0 then fX4_withinLimits_68 (fX4_withinLimits_30 n) t_cells t_parts t_det p1_numbers p1_rows p1_sizes p1_acts v2 v6 else some ((0), t_cells, t_parts, t_det)) else fX4_withinLimits_68 (fX4_withinLimits_30 n) t_cells t_parts t_det p1_numbers p1_rows p1_sizes p1_acts v2 v6)) := rfl
noncomputable def fX4_withinLimits  (t_cells : Nat → Int64) (t_parts : Nat → Int64) (t_det : Int64) (p1_numbers : Nat → Int32) (p1_cells : Nat → Int32) (p1_rows : Nat → Int32) (p1_sizes : Nat → Int32) (p1_acts : Int32) (v2 : Int32) (v3 : Int32) (v4 : Int32) (v5 : Int32) : Option (Int32 × (Nat → Int64) × (Nat → Int64) × Int64) := ob2 (fX4_take t_cells t_det p1_cells p1_rows p1_sizes p1_acts 0 v2) fun w2 w3 => (if (lg_cmp w3 0) = 0 then some ((0), w2, t_parts, w3) else (fX4_solve w2 t_parts v3 v4 v5).bind fun w7 => fX4_withinLimits_30 FU w2 w7 w3 p1_numbers p1_rows p1_sizes p1_acts v2 0)
set_option maxHeartbeats 4000000 in
set_option maxRecDepth 100000 in
theorem ctX4_withinLimits (l : Launch) (g : GT) (sz : Nat) (a_t : Nat → Nat) (a_p1 : Nat → Nat) (t_det : Int64) (t_cells : Nat → Int64) (t_parts : Nat → Int64) (p1_told : Int32) (p1_lines : Int32) (p1_kinds : Int32) (p1_acts : Int32) (p1_numbers : Nat → Int32) (p1_cells : Nat → Int32) (p1_rows : Nat → Int32) (p1_sizes : Nat → Int32) (v2 : Int32) (v3 : Int32) (v4 : Int32) (v5 : Int32) (o : Int32) (o_t_cells : Nat → Int64) (o_t_parts : Nat → Int64) (o_t_det : Int64) (h : fX4_withinLimits t_cells t_parts t_det p1_numbers p1_cells p1_rows p1_sizes p1_acts v2 v3 v4 v5 = some (o, o_t_cells, o_t_parts, o_t_det)) : Met l yX4_withinLimits (Cond.code yX4_withinLimits cX4_withinLimits 7 (some .boolean) :: Tw) ⟨4, 0, 0, 97⟩ (va_Pc [.ref ((a_t 0)), .ref ((a_p1 0)), .int v2, .int v3, .int v4, .int v5] (rwB g [((a_t 0), .inr (3, [.ref (a_t 1), .ref (a_t 2), .long t_det])), ((a_t 1), .inl (g.2.2.1 1, 9, .inr (.inl t_cells))), ((a_t 2), .inl (g.2.2.1 1, 3, .inr (.inl t_parts))), ((a_p1 0), .inr (1, [.ref (a_p1 1), .ref (a_p1 2), .ref (a_p1 3), .ref (a_p1 4), .ref (a_p1 5), .int p1_told, .int p1_lines, .int p1_kinds, .int p1_acts])), ((a_p1 1), .inl (g.2.2.1 0, 15, .inl p1_numbers)), ((a_p1 2), .inl (g.2.2.1 0, 144, .inl p1_cells)), ((a_p1 3), .inl (g.2.2.1 0, 31, .inl p1_rows)), ((a_p1 4), .inl (g.2.2.1 0, 31, .inl p1_sizes))] sz)) (va_Qi (fun x (_ : Nat → Nat) => x = o ∧ (x = 0 ∨ x = 1)) (fun u => rwE g (va_A [((a_t 0), .inr (3, [.ref (a_t 1), .ref (a_t 2), .long t_det])), ((a_t 1), .inl (g.2.2.1 1, 9, .inr (.inl t_cells))), ((a_t 2), .inl (g.2.2.1 1, 3, .inr (.inl t_parts))), ((a_p1 0), .inr (1, [.ref (a_p1 1), .ref (a_p1 2), .ref (a_p1 3), .ref (a_p1 4), .ref (a_p1 5), .int p1_told, .int p1_lines, .int p1_kinds, .int p1_acts])), ((a_p1 1), .inl (g.2.2.1 0, 15, .inl p1_numbers)), ((a_p1 2), .inl (g.2.2.1 0, 144, .inl p1_cells)), ((a_p1 3), .inl (g.2.2.1 0, 31, .inl p1_rows)), ((a_p1 4), .inl (g.2.2.1 0, 31, .inl p1_sizes))] sz) [((a_t 0), .inr (3, [.ref (a_t 1), .ref (a_t 2), .long o_t_det])), ((a_t 1), .inl (g.2.2.1 1, 9, .inr (.inl o_t_cells))), ((a_t 2), .inl (g.2.2.1 1, 3, .inr (.inl o_t_parts))), ((a_p1 0), .inr (1, [.ref (a_p1 1), .ref (a_p1 2), .ref (a_p1 3), .ref (a_p1 4), .ref (a_p1 5), .int p1_told, .int p1_lines, .int p1_kinds, .int p1_acts])), ((a_p1 1), .inl (g.2.2.1 0, 15, .inl p1_numbers)), ((a_p1 2), .inl (g.2.2.1 0, 144, .inl p1_cells)), ((a_p1 3), .inl (g.2.2.1 0, 31, .inl p1_rows)), ((a_p1 4), .inl (g.2.2.1 0, 31, .inl p1_sizes))]) (va_A [((a_t 0), .inr (3, [.ref (a_t 1), .ref (a_t 2), .long t_det])), ((a_t 1), .inl (g.2.2.1 1, 9, .inr (.inl t_cells))), ((a_t 2), .inl (g.2.2.1 1, 3, .inr (.inl t_parts))), ((a_p1 0), .inr (1, [.ref (a_p1 1), .ref (a_p1 2), .ref (a_p1 3), .ref (a_p1 4), .ref (a_p1 5), .int p1_told, .int p1_lines, .int p1_kinds, .int p1_acts])), ((a_p1 1), .inl (g.2.2.1 0, 15, .inl p1_numbers)), ((a_p1 2), .inl (g.2.2.1 0, 144, .inl p1_cells)), ((a_p1 3), .inl (g.2.2.1 0, 31, .inl p1_rows)), ((a_p1 4), .inl (g.2.2.1 0, 31, .inl p1_sizes))] sz)) 0 0 (va_A [((a_t 0), .inr (3, [.ref (a_t 1), .ref (a_t 2), .long t_det])), ((a_t 1), .inl (g.2.2.1 1, 9, .inr (.inl t_cells))), ((a_t 2), .inl (g.2.2.1 1, 3, .inr (.inl t_parts))), ((a_p1 0), .inr (1, [.ref (a_p1 1), .ref (a_p1 2), .ref (a_p1 3), .ref (a_p1 4), .ref (a_p1 5), .int p1_told, .int p1_lines, .int p1_kinds, .int p1_acts])), ((a_p1 1), .inl (g.2.2.1 0, 15, .inl p1_numbers)), ((a_p1 2), .inl (g.2.2.1 0, 144, .inl p1_cells)), ((a_p1 3), .inl (g.2.2.1 0, 31, .inl p1_rows)), ((a_p1 4), .inl (g.2.2.1 0, 31, .inl p1_sizes))] sz) := by
  refine rw_metz (by decide) (Nat.le_of_ble_eq_true rfl) (lv0 := [(0, .ref ((a_t 0))), (1, .ref ((a_p1 0))), (2, .int v2), (3, .int v3), (4, .int v4), (5, .int v5)]) rfl ?_
  intro p e s m args below meth c ls Q A cx hret hG hAb hb0 hA hP hD hl
  have hx := cx.1
  have hb := cx.2.1
  have hG0 := hG
  have hGk : ∀ {H : Heap} {locs : List Loc}, va_S A s.heap H locs → GE g s H := fun hS => hG0.keptS hAb hS
  have hSb : ∀ {H : Heap} {locs : List Loc}, va_S A s.heap H locs → va_S (fun a => g.1 ≤ a) s.heap H locs := fun hS => ⟨hS.1, fun q h1 h2 => hS.2.1 q h1 (fun z => h2 (hAb q z)), fun l hl => hAb _ (hS.2.2 l hl)⟩
  have hS : va_S A s.heap s.heap [] := va_S.rf
  have hrt : ∀ (u : Nat → Nat) (pc : Nat) (ls : Array Slot) (v : Int32) (x_t_cells : Nat → Int64) (x_t_parts : Nat → Int64) (x_t_det : Int64) (H : Heap) (locs : List Loc), decode cX4_withinLimits pc = .ok (.ireturn, 1) → (v = 0 ∨ v = 1) → some (v, x_t_cells, x_t_parts, x_t_det) = some (o, o_t_cells, o_t_parts, o_t_det) → va_P g.2.1 vwCl [((a_t 0), .inr (3, [.ref (a_t 1), .ref (a_t 2), .long x_t_det])), ((a_t 1), .inl (g.2.2.1 1, 9, .inr (.inl x_t_cells))), ((a_t 2), .inl (g.2.2.1 1, 3, .inr (.inl x_t_parts))), ((a_p1 0), .inr (1, [.ref (a_p1 1), .ref (a_p1 2), .ref (a_p1 3), .ref (a_p1 4), .ref (a_p1 5), .int p1_told, .int p1_lines, .int p1_kinds, .int p1_acts])), ((a_p1 1), .inl (g.2.2.1 0, 15, .inl p1_numbers)), ((a_p1 2), .inl (g.2.2.1 0, 144, .inl p1_cells)), ((a_p1 3), .inl (g.2.2.1 0, 31, .inl p1_rows)), ((a_p1 4), .inl (g.2.2.1 0, 31, .inl p1_sizes))] H → va_D A [((a_t 0), .inr (3, [.ref (a_t 1), .ref (a_t 2), .long x_t_det])), ((a_t 1), .inl (g.2.2.1 1, 9, .inr (.inl x_t_cells))), ((a_t 2), .inl (g.2.2.1 1, 3, .inr (.inl x_t_parts))), ((a_p1 0), .inr (1, [.ref (a_p1 1), .ref (a_p1 2), .ref (a_p1 3), .ref (a_p1 4), .ref (a_p1 5), .int p1_told, .int p1_lines, .int p1_kinds, .int p1_acts])), ((a_p1 1), .inl (g.2.2.1 0, 15, .inl p1_numbers)), ((a_p1 2), .inl (g.2.2.1 0, 144, .inl p1_cells)), ((a_p1 3), .inl (g.2.2.1 0, 31, .inl p1_rows)), ((a_p1 4), .inl (g.2.2.1 0, 31, .inl p1_sizes))] → va_S A s.heap H locs → W p l e ⟨4, 0, 0, 97⟩ s m args below meth c H locs 0 0 Q (F0 m pc ls [.int v]) := by
    intro u pc ls v x_t_cells x_t_parts x_t_det H locs hd hz h hP hD hS
    cases h
    exact hret u _ _ _ _ _ hd hz rfl hP hD hS
  have w68 : ∀ (k30 : (Nat → Int64) → (Nat → Int64) → Int64 → (Nat → Int32) → (Nat → Int32) → (Nat → Int32) → Int32 → Int32 → Int32 → Option (Int32 × (Nat → Int64) × (Nat → Int64) × Int64)) (hk30 : ∀ (t_cells : Nat → Int64) (t_parts : Nat → Int64) (t_det : Int64) (v2 : Int32) (v6 : Int32) (H : Heap) (locs : List Loc), va_P g.2.1 vwCl [((a_t 0), .inr (3, [.ref (a_t 1), .ref (a_t 2), .long t_det])), ((a_t 1), .inl (g.2.2.1 1, 9, .inr (.inl t_cells))), ((a_t 2), .inl (g.2.2.1 1, 3, .inr (.inl t_parts))), ((a_p1 0), .inr (1, [.ref (a_p1 1), .ref (a_p1 2), .ref (a_p1 3), .ref (a_p1 4), .ref (a_p1 5), .int p1_told, .int p1_lines, .int p1_kinds, .int p1_acts])), ((a_p1 1), .inl (g.2.2.1 0, 15, .inl p1_numbers)), ((a_p1 2), .inl (g.2.2.1 0, 144, .inl p1_cells)), ((a_p1 3), .inl (g.2.2.1 0, 31, .inl p1_rows)), ((a_p1 4), .inl (g.2.2.1 0, 31, .inl p1_sizes))] H → va_D A [((a_t 0), .inr (3, [.ref (a_t 1), .ref (a_t 2), .long t_det])), ((a_t 1), .inl (g.2.2.1 1, 9, .inr (.inl t_cells))), ((a_t 2), .inl (g.2.2.1 1, 3, .inr (.inl t_parts))), ((a_p1 0), .inr (1, [.ref (a_p1 1), .ref (a_p1 2), .ref (a_p1 3), .ref (a_p1 4), .ref (a_p1 5), .int p1_told, .int p1_lines, .int p1_kinds, .int p1_acts])), ((a_p1 1), .inl (g.2.2.1 0, 15, .inl p1_numbers)), ((a_p1 2), .inl (g.2.2.1 0, 144, .inl p1_cells)), ((a_p1 3), .inl (g.2.2.1 0, 31, .inl p1_rows)), ((a_p1 4), .inl (g.2.2.1 0, 31, .inl p1_sizes))] → va_S A s.heap H locs → ∀ (ls : Array Slot), lv_has ls 7 [(0, .ref ((a_t 0))), (1, .ref ((a_p1 0))), (2, .int v2), (6, .int v6)] → k30 t_cells t_parts t_det p1_numbers p1_rows p1_sizes p1_acts v2 v6 = some (o, o_t_cells, o_t_parts, o_t_det) → W p l e ⟨4, 0, 0, 97⟩ s m args below meth c H locs 0 0 Q (F0 m 30 ls [])) (t_cells : Nat → Int64) (t_parts : Nat → Int64) (t_det : Int64) (v2 : Int32) (v6 : Int32) (H : Heap) (locs : List Loc), va_P g.2.1 vwCl [((a_t 0), .inr (3, [.ref (a_t 1), .ref (a_t 2), .long t_det])), ((a_t 1), .inl (g.2.2.1 1, 9, .inr (.inl t_cells))), ((a_t 2), .inl (g.2.2.1 1, 3, .inr (.inl t_parts))), ((a_p1 0), .inr (1, [.ref (a_p1 1), .ref (a_p1 2), .ref (a_p1 3), .ref (a_p1 4), .ref (a_p1 5), .int p1_told, .int p1_lines, .int p1_kinds, .int p1_acts])), ((a_p1 1), .inl (g.2.2.1 0, 15, .inl p1_numbers)), ((a_p1 2), .inl (g.2.2.1 0, 144, .inl p1_cells)), ((a_p1 3), .inl (g.2.2.1 0, 31, .inl p1_rows)), ((a_p1 4), .inl (g.2.2.1 0, 31, .inl p1_sizes))] H → va_D A [((a_t 0), .inr (3, [.ref (a_t 1), .ref (a_t 2), .long t_det])), ((a_t 1), .inl (g.2.2.1 1, 9, .inr (.inl t_cells))), ((a_t 2), .inl (g.2.2.1 1, 3, .inr (.inl t_parts))), ((a_p1 0), .inr (1, [.ref (a_p1 1), .ref (a_p1 2), .ref (a_p1 3), .ref (a_p1 4), .ref (a_p1 5), .int p1_told, .int p1_lines, .int p1_kinds, .int p1_acts])), ((a_p1 1), .inl (g.2.2.1 0, 15, .inl p1_numbers)), ((a_p1 2), .inl (g.2.2.1 0, 144, .inl p1_cells)), ((a_p1 3), .inl (g.2.2.1 0, 31, .inl p1_rows)), ((a_p1 4), .inl (g.2.2.1 0, 31, .inl p1_sizes))] → va_S A s.heap H locs → ∀ (ls : Array Slot), lv_has ls 7 [(0, .ref ((a_t 0))), (1, .ref ((a_p1 0))), (2, .int v2), (6, .int v6)] → fX4_withinLimits_68 k30 t_cells t_parts t_det p1_numbers p1_rows p1_sizes p1_acts v2 v6 = some (o, o_t_cells, o_t_parts, o_t_det) → W p l e ⟨4, 0, 0, 97⟩ s m args below meth c H locs 0 0 Q (F0 m 68 ls []) := by
    intro k30 hk30 t_cells t_parts t_det v2 v6 H locs hP hD hS ls hl h
    unfold fX4_withinLimits_68 at h
    have hG := hGk hS
    refine lv_iinc (v := v6 + 1) (lv' := [(6, .int (v6 + 1)), (0, .ref ((a_t 0))), (1, .ref ((a_p1 0))), (2, .int v2)]) hx hb dX4_withinLimits_68 hl (k := 3) rfl rfl (by decide) rfl (fun ls hl => ?_)
    refine lv_goto (tgt := 30) hx hb dX4_withinLimits_71 (by decide) ?_
    exact hk30 t_cells t_parts t_det v2 (v6 + 1) _ _ hP hD hS _ (lv_sub hl [1, 2, 3, 0] rfl) h
  have w30 : ∀ (n : Nat) (t_cells : Nat → Int64) (t_parts : Nat → Int64) (t_det : Int64) (v2 : Int32) (v6 : Int32) (H : Heap) (locs : List Loc), va_P g.2.1 vwCl [((a_t 0), .inr (3, [.ref (a_t 1), .ref (a_t 2), .long t_det])), ((a_t 1), .inl (g.2.2.1 1, 9, .inr (.inl t_cells))), ((a_t 2), .inl (g.2.2.1 1, 3, .inr (.inl t_parts))), ((a_p1 0), .inr (1, [.ref (a_p1 1), .ref (a_p1 2), .ref (a_p1 3), .ref (a_p1 4), .ref (a_p1 5), .int p1_told, .int p1_lines, .int p1_kinds, .int p1_acts])), ((a_p1 1), .inl (g.2.2.1 0, 15, .inl p1_numbers)), ((a_p1 2), .inl (g.2.2.1 0, 144, .inl p1_cells)), ((a_p1 3), .inl (g.2.2.1 0, 31, .inl p1_rows)), ((a_p1 4), .inl (g.2.2.1 0, 31, .inl p1_sizes))] H → va_D A [((a_t 0), .inr (3, [.ref (a_t 1), .ref (a_t 2), .long t_det])), ((a_t 1), .inl (g.2.2.1 1, 9, .inr (.inl t_cells))), ((a_t 2), .inl (g.2.2.1 1, 3, .inr (.inl t_parts))), ((a_p1 0), .inr (1, [.ref (a_p1 1), .ref (a_p1 2), .ref (a_p1 3), .ref (a_p1 4), .ref (a_p1 5), .int p1_told, .int p1_lines, .int p1_kinds, .int p1_acts])), ((a_p1 1), .inl (g.2.2.1 0, 15, .inl p1_numbers)), ((a_p1 2), .inl (g.2.2.1 0, 144, .inl p1_cells)), ((a_p1 3), .inl (g.2.2.1 0, 31, .inl p1_rows)), ((a_p1 4), .inl (g.2.2.1 0, 31, .inl p1_sizes))] → va_S A s.heap H locs → ∀ (ls : Array Slot), lv_has ls 7 [(0, .ref ((a_t 0))), (1, .ref ((a_p1 0))), (2, .int v2), (6, .int v6)] → fX4_withinLimits_30  n t_cells t_parts t_det p1_numbers p1_rows p1_sizes p1_acts v2 v6 = some (o, o_t_cells, o_t_parts, o_t_det) → W p l e ⟨4, 0, 0, 97⟩ s m args below meth c H locs 0 0 Q (F0 m 30 ls []) := by
    intro n
    induction n with
    | zero => intro t_cells t_parts t_det v2 v6 H locs hP hD hS ls hl h; cases (fX4_withinLimits_30_z  t_cells t_parts t_det p1_numbers p1_rows p1_sizes p1_acts v2 v6).symm.trans h
    | succ n ih =>
    intro t_cells t_parts t_det v2 v6 H locs hP hD hS ls hl h
    have h := (fX4_withinLimits_30_s  n t_cells t_parts t_det p1_numbers p1_rows p1_sizes p1_acts v2 v6).symm.trans h
    have hG := hGk hS
    refine lv_iload hx hb dX4_withinLimits_30 (lv_at hl 3 rfl) ?_
    refine lv_aload_n hx hb dX4_withinLimits_32 rfl (lv_at hl 1 rfl) ?_
    obtain ⟨r9, hr10, h⟩ := bnd h
    refine ro_i (runVN (As := []) (rest := [.int v6]) hG cx hl.1 (ctX1_plies l g a_p1 p1_told p1_lines p1_kinds p1_acts p1_sizes r9 hr10) kmX1_plies kvX1_plies nm_43 ⟨rfl, rfl⟩ ⟨Nat.le_of_ble_eq_true rfl, Nat.le_of_ble_eq_true rfl⟩ (roV (q0 := 3) (ci := 1) hG (hP.sub [3, 7] rfl) hP rfl rfl) rfl rfl (Nat.le_of_ble_eq_true rfl) dX4_withinLimits_33 ⟨Nat.le_of_ble_eq_true rfl, Nat.le_of_ble_eq_true rfl⟩) ?_
    refine lv_icmp_ge (tgt := 74) hx hb dX4_withinLimits_36 (by decide) (fun c11 => ?_) (fun c11 => ?_)
    · have h := itp c11 h
      refine lv_iconst (v := 1) hx hb dX4_withinLimits_74 (by decide) ?_
      exact hrt (fun _ => 0) _ _ ((1)) t_cells t_parts t_det _ _ dX4_withinLimits_75 (by decide) h (hP.sub [0, 1, 2, 3, 4, 5, 6, 7] rfl) (hD.sub [0, 1, 2, 3, 4, 5, 6, 7] (by decide) rfl) hS
    · have h := itn c11 h
      refine lv_iload_n hx hb dX4_withinLimits_39 rfl (lv_at hl 2 rfl) ?_
      refine lv_iload hx hb dX4_withinLimits_40 (lv_at hl 3 rfl) ?_
      refine lv_ishr hx hb dX4_withinLimits_42 ?_
      refine lv_iconst (v := 1) hx hb dX4_withinLimits_43 (by decide) ?_
      refine lv_iand hx hb dX4_withinLimits_44 ?_
      refine lv_if_ne (tgt := 68) hx hb dX4_withinLimits_45 (by decide) (fun c12 => ?_) (fun c12 => ?_)
      · have h := itn c12 h
        exact w68 _ ih t_cells t_parts t_det v2 v6 _ _ hP hD hS _ (lv_sub hl [0, 1, 2, 3] rfl) h
      · have h := itp c12 h
        refine lv_aload_n hx hb dX4_withinLimits_48 rfl (lv_at hl 0 rfl) ?_
        refine lv_aload_n hx hb dX4_withinLimits_49 rfl (lv_at hl 1 rfl) ?_
        refine lv_iload hx hb dX4_withinLimits_50 (lv_at hl 3 rfl) ?_
        obtain ⟨r13, hr14, h⟩ := bnd h
        refine ro_l (runV (As := [.ref ((a_p1 0)), .int v6]) (rest := []) cx hl.1 (ctX4_strainedAt l g a_t a_p1 t_det t_parts p1_told p1_lines p1_kinds p1_acts p1_rows v6 r13 hr14) kmX4_strainedAt kvX4_strainedAt lm_X4_64 ⟨rfl, rfl⟩ ⟨Nat.le_of_ble_eq_true rfl, Nat.le_of_ble_eq_true rfl⟩ (roV (q0 := 0) (ci := 3) hG (hP.sub [0, 2, 3, 6] rfl) hP rfl rfl) rfl rfl (Nat.le_of_ble_eq_true rfl) dX4_withinLimits_52 ⟨Nat.le_of_ble_eq_true rfl, Nat.le_of_ble_eq_true rfl⟩) ?_
        refine lv_aload_n hx hb dX4_withinLimits_55 rfl (lv_at hl 0 rfl) ?_
        refine lv_aload_n hx hb dX4_withinLimits_56 rfl (lv_at hl 1 rfl) ?_
        refine lv_iload hx hb dX4_withinLimits_57 (lv_at hl 3 rfl) ?_
        obtain ⟨r15, hr16, h⟩ := bnd h
        refine ro_l (runV (As := [.ref ((a_p1 0)), .int v6]) (rest := [.long r13]) cx hl.1 (ctX4_bound l g a_t a_p1 t_det p1_told p1_lines p1_kinds p1_acts p1_numbers p1_rows v6 r15 hr16) kmX4_bound kvX4_bound lm_X4_68 ⟨rfl, rfl⟩ ⟨Nat.le_of_ble_eq_true rfl, Nat.le_of_ble_eq_true rfl⟩ (roV (q0 := 0) (ci := 3) hG (hP.sub [0, 3, 4, 6] rfl) hP rfl rfl) rfl rfl (Nat.le_of_ble_eq_true rfl) dX4_withinLimits_59 ⟨Nat.le_of_ble_eq_true rfl, Nat.le_of_ble_eq_true rfl⟩) ?_
        refine W.lcmp hx hb dX4_withinLimits_62 ?_
        refine lv_if_le (tgt := 68) hx hb dX4_withinLimits_63 (by decide) (fun c17 => ?_) (fun c17 => ?_)
        · have h := itp c17 h
          exact w68 _ ih t_cells t_parts t_det v2 v6 _ _ hP hD hS _ (lv_sub hl [0, 1, 2, 3] rfl) h
        · have h := itn c17 h
          refine lv_iconst (v := 0) hx hb dX4_withinLimits_66 (by decide) ?_
          exact hrt (fun _ => 0) _ _ ((0)) t_cells t_parts t_det _ _ dX4_withinLimits_67 (by decide) h (hP.sub [0, 1, 2, 3, 4, 5, 6, 7] rfl) (hD.sub [0, 1, 2, 3, 4, 5, 6, 7] (by decide) rfl) hS
  unfold fX4_withinLimits at h
  refine lv_aload_n hx hb dX4_withinLimits_0 rfl (lv_at hl 0 rfl) ?_
  refine lv_aload_n hx hb dX4_withinLimits_1 rfl (lv_at hl 1 rfl) ?_
  refine lv_iconst (v := 0) hx hb dX4_withinLimits_2 (by decide) ?_
  refine lv_iload_n hx hb dX4_withinLimits_3 rfl (lv_at hl 2 rfl) ?_
  obtain ⟨w2, w3, hr1, h⟩ := ob2_out h
  refine rw_v (WN := fun u4 => [((a_t 2), .inl (g.2.2.1 1, 3, .inr (.inl t_parts))), ((a_p1 1), .inl (g.2.2.1 0, 15, .inl p1_numbers)), ((a_t 0), .inr (3, [.ref (a_t 1), .ref (a_t 2), .long w3])), ((a_t 1), .inl (g.2.2.1 1, 9, .inr (.inl w2))), ((a_p1 0), .inr (1, [.ref (a_p1 1), .ref (a_p1 2), .ref (a_p1 3), .ref (a_p1 4), .ref (a_p1 5), .int p1_told, .int p1_lines, .int p1_kinds, .int p1_acts])), ((a_p1 2), .inl (g.2.2.1 0, 144, .inl p1_cells)), ((a_p1 3), .inl (g.2.2.1 0, 31, .inl p1_rows)), ((a_p1 4), .inl (g.2.2.1 0, 31, .inl p1_sizes))]) (wr := [((a_t 2), .inl (g.2.2.1 1, 3, .inr (.inl t_parts))), ((a_p1 1), .inl (g.2.2.1 0, 15, .inl p1_numbers))]) (runV (As := [.ref ((a_p1 0)), .int (0), .int v2]) (rest := []) cx hl.1 (ctX4_take l g s.heap.size a_t a_p1 t_det t_cells p1_told p1_lines p1_kinds p1_acts p1_cells p1_rows p1_sizes (0) v2 w2 w3 hr1) kmX4_take kvX4_take lm_X4_75 ⟨rfl, rfl⟩ ⟨Nat.le_of_ble_eq_true rfl, Nat.le_of_ble_eq_true rfl⟩ (rwV (q0 := 0) (ci := 3) hG (hP.sub [0, 1, 3, 5, 6, 7] rfl) (hD.sub [0, 1, 3, 5, 6, 7] (by decide) rfl) hAb hb0 hS hP rfl rfl) rfl rfl (Nat.le_of_ble_eq_true rfl) dX4_withinLimits_4 ⟨Nat.le_of_ble_eq_true rfl, Nat.le_of_ble_eq_true rfl⟩) hP hD hS hA [0, 1, 3, 5, 6, 7] [2, 4] rfl rfl (by decide) (by decide) (fun _ => rfl) (fun u4 H locs hP hD hS => ?_)
  have hG := hGk hS
  refine lv_aload_n hx hb dX4_withinLimits_7 rfl (lv_at hl 0 rfl) ?_
  refine xa_get (C := RX4) (T := TX4) (N := 3) cx hG hP 2 rfl rfl uX4 2 (by decide) lf_X4_28 rfl dX4_withinLimits_8 ?_
  refine lv_lconst (v := 0) hx hb dX4_withinLimits_11 (by decide) ?_
  refine W.lcmp hx hb dX4_withinLimits_12 ?_
  refine lv_if_ne (tgt := 18) hx hb dX4_withinLimits_13 (by decide) (fun c5 => ?_) (fun c5 => ?_)
  · have h := itn c5 h
    refine lv_aload_n hx hb dX4_withinLimits_18 rfl (lv_at hl 0 rfl) ?_
    refine lv_iload_n hx hb dX4_withinLimits_19 rfl (lv_at hl 3 rfl) ?_
    refine lv_iload hx hb dX4_withinLimits_20 (lv_at hl 4 rfl) ?_
    refine lv_iload hx hb dX4_withinLimits_22 (lv_at hl 5 rfl) ?_
    obtain ⟨w7, hr6, h⟩ := bnd h
    refine rw_v (WN := fun u8 => [((a_p1 1), .inl (g.2.2.1 0, 15, .inl p1_numbers)), ((a_p1 0), .inr (1, [.ref (a_p1 1), .ref (a_p1 2), .ref (a_p1 3), .ref (a_p1 4), .ref (a_p1 5), .int p1_told, .int p1_lines, .int p1_kinds, .int p1_acts])), ((a_p1 2), .inl (g.2.2.1 0, 144, .inl p1_cells)), ((a_p1 3), .inl (g.2.2.1 0, 31, .inl p1_rows)), ((a_p1 4), .inl (g.2.2.1 0, 31, .inl p1_sizes)), ((a_t 0), .inr (3, [.ref (a_t 1), .ref (a_t 2), .long w3])), ((a_t 1), .inl (g.2.2.1 1, 9, .inr (.inl w2))), ((a_t 2), .inl (g.2.2.1 1, 3, .inr (.inl w7)))]) (wr := [((a_p1 1), .inl (g.2.2.1 0, 15, .inl p1_numbers)), ((a_p1 0), .inr (1, [.ref (a_p1 1), .ref (a_p1 2), .ref (a_p1 3), .ref (a_p1 4), .ref (a_p1 5), .int p1_told, .int p1_lines, .int p1_kinds, .int p1_acts])), ((a_p1 2), .inl (g.2.2.1 0, 144, .inl p1_cells)), ((a_p1 3), .inl (g.2.2.1 0, 31, .inl p1_rows)), ((a_p1 4), .inl (g.2.2.1 0, 31, .inl p1_sizes))]) (runV (As := [.int v3, .int v4, .int v5]) (rest := []) cx hl.1 (ctX4_solve l g H.size a_t w3 w2 t_parts v3 v4 v5 w7 hr6) kmX4_solve kvX4_solve lm_X4_79 ⟨rfl, rfl⟩ ⟨Nat.le_of_ble_eq_true rfl, Nat.le_of_ble_eq_true rfl⟩ (rwV (q0 := 2) (ci := 3) hG (hP.sub [2, 3, 0] rfl) (hD.sub [2, 3, 0] (by decide) rfl) hAb hb0 hS hP rfl rfl) rfl rfl (Nat.le_of_ble_eq_true rfl) dX4_withinLimits_24 ⟨Nat.le_of_ble_eq_true rfl, Nat.le_of_ble_eq_true rfl⟩) hP hD hS hA [2, 3, 0] [1, 4, 5, 6, 7] rfl rfl (by decide) (by decide) (fun _ => rfl) (fun u8 H locs hP hD hS => ?_)
    have hG := hGk hS
    refine lv_iconst (v := 0) hx hb dX4_withinLimits_27 (by decide) ?_
    refine lv_istore (lv' := [(6, .int (0)), (0, .ref ((a_t 0))), (1, .ref ((a_p1 0))), (2, .int v2), (3, .int v3), (4, .int v4), (5, .int v5)]) hx hb dX4_withinLimits_28 hl (by decide) rfl (fun ls hl => ?_)
    exact w30 FU w2 w7 w3 v2 0 _ _ (hP.sub [5, 6, 7, 1, 0, 2, 3, 4] rfl) (hD.sub [5, 6, 7, 1, 0, 2, 3, 4] (by decide) rfl) hS _ (lv_sub hl [1, 2, 3, 0] rfl) h
  · have h := itp c5 h
    refine lv_iconst (v := 0) hx hb dX4_withinLimits_16 (by decide) ?_
    exact hrt (fun _ => 0) _ _ ((0)) w2 t_parts w3 _ _ dX4_withinLimits_17 (by decide) h (hP.sub [2, 3, 0, 4, 1, 5, 6, 7] rfl) (hD.sub [2, 3, 0, 4, 1, 5, 6, 7] (by decide) rfl) hS
-- X4_fewestLost
theorem dX4_fewestLost_0 : decode cX4_fewestLost 0 = .ok (.aload_n 1, 1) := by decide +kernel
theorem dX4_fewestLost_1 : decode cX4_fewestLost 1 = .ok (.invokevirtual 83, 3) := by decide +kernel
theorem dX4_fewestLost_4 : decode cX4_fewestLost 4 = .ok (.istore 5, 2) := by decide +kernel
theorem dX4_fewestLost_6 : decode cX4_fewestLost 6 = .ok (.iconst 0, 1) := by decide +kernel
theorem dX4_fewestLost_7 : decode cX4_fewestLost 7 = .ok (.istore 6, 2) := by decide +kernel
theorem dX4_fewestLost_9 : decode cX4_fewestLost 9 = .ok (.iload 6, 2) := by decide +kernel
theorem dX4_fewestLost_11 : decode cX4_fewestLost 11 = .ok (.aload_n 1, 1) := by decide +kernel
theorem dX4_fewestLost_12 : decode cX4_fewestLost 12 = .ok (.invokevirtual 83, 3) := by decide +kernel
theorem dX4_fewestLost_15 : decode cX4_fewestLost 15 = .ok (.if_icmp .ge 40, 3) := by decide +kernel
theorem dX4_fewestLost_18 : decode cX4_fewestLost 18 = .ok (.iload 6, 2) := by decide +kernel
theorem dX4_fewestLost_20 : decode cX4_fewestLost 20 = .ok (.invokestatic 86, 3) := by decide +kernel
theorem dX4_fewestLost_23 : decode cX4_fewestLost 23 = .ok (.iload 5, 2) := by decide +kernel
theorem dX4_fewestLost_25 : decode cX4_fewestLost 25 = .ok (.invokestatic 86, 3) := by decide +kernel
theorem dX4_fewestLost_28 : decode cX4_fewestLost 28 = .ok (.if_icmp .ge 21, 3) := by decide +kernel
theorem dX4_fewestLost_31 : decode cX4_fewestLost 31 = .ok (.aload_n 0, 1) := by decide +kernel
theorem dX4_fewestLost_32 : decode cX4_fewestLost 32 = .ok (.aload_n 1, 1) := by decide +kernel
theorem dX4_fewestLost_33 : decode cX4_fewestLost 33 = .ok (.iload 6, 2) := by decide +kernel
theorem dX4_fewestLost_35 : decode cX4_fewestLost 35 = .ok (.iload_n 2, 1) := by decide +kernel
theorem dX4_fewestLost_36 : decode cX4_fewestLost 36 = .ok (.iload_n 3, 1) := by decide +kernel
theorem dX4_fewestLost_37 : decode cX4_fewestLost 37 = .ok (.iload 4, 2) := by decide +kernel
theorem dX4_fewestLost_39 : decode cX4_fewestLost 39 = .ok (.invokevirtual 91, 3) := by decide +kernel
theorem dX4_fewestLost_42 : decode cX4_fewestLost 42 = .ok (.ifCond .ne 7, 3) := by decide +kernel
theorem dX4_fewestLost_45 : decode cX4_fewestLost 45 = .ok (.iload 6, 2) := by decide +kernel
theorem dX4_fewestLost_47 : decode cX4_fewestLost 47 = .ok (.istore 5, 2) := by decide +kernel
theorem dX4_fewestLost_49 : decode cX4_fewestLost 49 = .ok (.iinc 6 1, 3) := by decide +kernel
theorem dX4_fewestLost_52 : decode cX4_fewestLost 52 = .ok (.goto (-43), 3) := by decide +kernel
theorem dX4_fewestLost_55 : decode cX4_fewestLost 55 = .ok (.iload 5, 2) := by decide +kernel
theorem dX4_fewestLost_57 : decode cX4_fewestLost 57 = .ok (.ireturn, 1) := by decide +kernel
noncomputable def fX4_fewestLost_49 (k9 : (Nat → Int64) → (Nat → Int64) → Int64 → (Nat → Int32) → (Nat → Int32) → (Nat → Int32) → (Nat → Int32) → Int32 → Int32 → Int32 → Int32 → Int32 → Int32 → Option (Int32 × (Nat → Int64) × (Nat → Int64) × Int64)) (t_cells : Nat → Int64) (t_parts : Nat → Int64) (t_det : Int64) (p1_numbers : Nat → Int32) (p1_cells : Nat → Int32) (p1_rows : Nat → Int32) (p1_sizes : Nat → Int32) (p1_acts : Int32) (v2 : Int32) (v3 : Int32) (v4 : Int32) (v5 : Int32) (v6 : Int32) : Option (Int32 × (Nat → Int64) × (Nat → Int64) × Int64) := k9 t_cells t_parts t_det p1_numbers p1_cells p1_rows p1_sizes p1_acts v2 v3 v4 v5 (v6 + 1)
noncomputable def fX4_fewestLost_9  : Nat → (Nat → Int64) → (Nat → Int64) → Int64 → (Nat → Int32) → (Nat → Int32) → (Nat → Int32) → (Nat → Int32) → Int32 → Int32 → Int32 → Int32 → Int32 → Int32 → Option (Int32 × (Nat → Int64) × (Nat → Int64) × Int64)
  | 0, _, _, _, _, _, _, _, _, _, _, _, _, _ => none
  | n + 1, t_cells, t_parts, t_det, p1_numbers, p1_cells, p1_rows, p1_sizes, p1_acts, v2, v3, v4, v5, v6 => (fX1_allPlies p1_sizes p1_acts).bind fun r3 => (if r3 ≤ v6 then some (v5, t_cells, t_parts, t_det) else (if (fJ6_bitCount_0f7a4 v5) ≤ (fJ6_bitCount_0f7a4 v6) then fX4_fewestLost_49 (fX4_fewestLost_9 n) t_cells t_parts t_det p1_numbers p1_cells p1_rows p1_sizes p1_acts v2 v3 v4 v5 v6 else ob4 (fX4_withinLimits t_cells t_parts t_det p1_numbers p1_cells p1_rows p1_sizes p1_acts v6 v2 v3 v4) fun r8 w9 w10 w11 => (if r8 = 0 then fX4_fewestLost_49 (fX4_fewestLost_9 n) w9 w10 w11 p1_numbers p1_cells p1_rows p1_sizes p1_acts v2 v3 v4 v6 v6 else fX4_fewestLost_49 (fX4_fewestLost_9 n) w9 w10 w11 p1_numbers p1_cells p1_rows p1_sizes p1_acts v2 v3 v4 v5 v6)))
theorem fX4_fewestLost_9_z  (t_cells : Nat → Int64) (t_parts : Nat → Int64) (t_det : Int64) (p1_numbers : Nat → Int32) (p1_cells : Nat → Int32) (p1_rows : Nat → Int32) (p1_sizes : Nat → Int32) (p1_acts : Int32) (v2 : Int32) (v3 : Int32) (v4 : Int32) (v5 : Int32) (v6 : Int32) : fX4_fewestLost_9  0 t_cells t_parts t_det p1_numbers p1_cells p1_rows p1_sizes p1_acts v2 v3 v4 v5 v6 = none := rfl
theorem fX4_fewestLost_9_s  (n : Nat) (t_cells : Nat → Int64) (t_parts : Nat → Int64) (t_det : Int64) (p1_numbers : Nat → Int32) (p1_cells : Nat → Int32) (p1_rows : Nat → Int32) (p1_sizes : Nat → Int32) (p1_acts : Int32) (v2 : Int32) (v3 : Int32) (v4 : Int32) (v5 : Int32) (v6 : Int32) : fX4_fewestLost_9  (n + 1) t_cells t_parts t_det p1_numbers p1_cells p1_rows p1_sizes p1_acts v2 v3 v4 v5 v6 = (fX1_allPlies p1_sizes p1_acts).bind fun r3 => (if r3 ≤ v6 then some (v5, t_cells, t_parts, t_det) else (if (fJ6_bitCount_0f7a4 v5) ≤ (fJ6_bitCount_0f7a4 v6) then fX4_fewestLost_49 (fX4_fewestLost_9 n) t_cells t_parts t_det p1_numbers p1_cells p1_rows p1_sizes p1_acts v2 v3 v4 v5 v6 else ob4 (fX4_withinLimits t_cells t_parts t_det p1_numbers p1_cells p1_rows p1_sizes p1_acts v6 v2 v3 v4) fun r8 w9 w10 w11 => (if r8 = 0 then fX4_fewestLost_49 (fX4_fewestLost_9 n) w9 w10 w11 p1_numbers p1_cells p1_rows p1_sizes p1_acts v2 v3 v4 v6 v6 else fX4_fewestLost_49 (fX4_fewestLost_9 n) w9 w10 w11 p1_numbers p1_cells p1_rows p1_sizes p1_acts v2 v3 v4 v5 v6))) := rfl
noncomputable def fX4_fewestLost  (t_cells : Nat → Int64) (t_parts : Nat → Int64) (t_det : Int64) (p1_numbers : Nat → Int32) (p1_cells : Nat → Int32) (p1_rows : Nat → Int32) (p1_sizes : Nat → Int32) (p1_acts : Int32) (v2 : Int32) (v3 : Int32) (v4 : Int32) : Option (Int32 × (Nat → Int64) × (Nat → Int64) × Int64) := (fX1_allPlies p1_sizes p1_acts).bind fun r1 => fX4_fewestLost_9 FU t_cells t_parts t_det p1_numbers p1_cells p1_rows p1_sizes p1_acts v2 v3 v4 r1 0
set_option maxHeartbeats 4000000 in
set_option maxRecDepth 100000 in
theorem ctX4_fewestLost (l : Launch) (g : GT) (sz : Nat) (a_t : Nat → Nat) (a_p1 : Nat → Nat) (t_det : Int64) (t_cells : Nat → Int64) (t_parts : Nat → Int64) (p1_told : Int32) (p1_lines : Int32) (p1_kinds : Int32) (p1_acts : Int32) (p1_numbers : Nat → Int32) (p1_cells : Nat → Int32) (p1_rows : Nat → Int32) (p1_sizes : Nat → Int32) (v2 : Int32) (v3 : Int32) (v4 : Int32) (o : Int32) (o_t_cells : Nat → Int64) (o_t_parts : Nat → Int64) (o_t_det : Int64) (h : fX4_fewestLost t_cells t_parts t_det p1_numbers p1_cells p1_rows p1_sizes p1_acts v2 v3 v4 = some (o, o_t_cells, o_t_parts, o_t_det)) : Met l yX4_fewestLost (Cond.code yX4_fewestLost cX4_fewestLost 7 (some .int) :: Tw) ⟨5, 0, 0, 123⟩ (va_Pc [.ref ((a_t 0)), .ref ((a_p1 0)), .int v2, .int v3, .int v4] (rwB g [((a_t 0), .inr (3, [.ref (a_t 1), .ref (a_t 2), .long t_det])), ((a_t 1), .inl (g.2.2.1 1, 9, .inr (.inl t_cells))), ((a_t 2), .inl (g.2.2.1 1, 3, .inr (.inl t_parts))), ((a_p1 0), .inr (1, [.ref (a_p1 1), .ref (a_p1 2), .ref (a_p1 3), .ref (a_p1 4), .ref (a_p1 5), .int p1_told, .int p1_lines, .int p1_kinds, .int p1_acts])), ((a_p1 1), .inl (g.2.2.1 0, 15, .inl p1_numbers)), ((a_p1 2), .inl (g.2.2.1 0, 144, .inl p1_cells)), ((a_p1 3), .inl (g.2.2.1 0, 31, .inl p1_rows)), ((a_p1 4), .inl (g.2.2.1 0, 31, .inl p1_sizes))] sz)) (va_Qi (fun x (_ : Nat → Nat) => x = o) (fun u => rwE g (va_A [((a_t 0), .inr (3, [.ref (a_t 1), .ref (a_t 2), .long t_det])), ((a_t 1), .inl (g.2.2.1 1, 9, .inr (.inl t_cells))), ((a_t 2), .inl (g.2.2.1 1, 3, .inr (.inl t_parts))), ((a_p1 0), .inr (1, [.ref (a_p1 1), .ref (a_p1 2), .ref (a_p1 3), .ref (a_p1 4), .ref (a_p1 5), .int p1_told, .int p1_lines, .int p1_kinds, .int p1_acts])), ((a_p1 1), .inl (g.2.2.1 0, 15, .inl p1_numbers)), ((a_p1 2), .inl (g.2.2.1 0, 144, .inl p1_cells)), ((a_p1 3), .inl (g.2.2.1 0, 31, .inl p1_rows)), ((a_p1 4), .inl (g.2.2.1 0, 31, .inl p1_sizes))] sz) [((a_t 0), .inr (3, [.ref (a_t 1), .ref (a_t 2), .long o_t_det])), ((a_t 1), .inl (g.2.2.1 1, 9, .inr (.inl o_t_cells))), ((a_t 2), .inl (g.2.2.1 1, 3, .inr (.inl o_t_parts))), ((a_p1 0), .inr (1, [.ref (a_p1 1), .ref (a_p1 2), .ref (a_p1 3), .ref (a_p1 4), .ref (a_p1 5), .int p1_told, .int p1_lines, .int p1_kinds, .int p1_acts])), ((a_p1 1), .inl (g.2.2.1 0, 15, .inl p1_numbers)), ((a_p1 2), .inl (g.2.2.1 0, 144, .inl p1_cells)), ((a_p1 3), .inl (g.2.2.1 0, 31, .inl p1_rows)), ((a_p1 4), .inl (g.2.2.1 0, 31, .inl p1_sizes))]) (va_A [((a_t 0), .inr (3, [.ref (a_t 1), .ref (a_t 2), .long t_det])), ((a_t 1), .inl (g.2.2.1 1, 9, .inr (.inl t_cells))), ((a_t 2), .inl (g.2.2.1 1, 3, .inr (.inl t_parts))), ((a_p1 0), .inr (1, [.ref (a_p1 1), .ref (a_p1 2), .ref (a_p1 3), .ref (a_p1 4), .ref (a_p1 5), .int p1_told, .int p1_lines, .int p1_kinds, .int p1_acts])), ((a_p1 1), .inl (g.2.2.1 0, 15, .inl p1_numbers)), ((a_p1 2), .inl (g.2.2.1 0, 144, .inl p1_cells)), ((a_p1 3), .inl (g.2.2.1 0, 31, .inl p1_rows)), ((a_p1 4), .inl (g.2.2.1 0, 31, .inl p1_sizes))] sz)) 0 0 (va_A [((a_t 0), .inr (3, [.ref (a_t 1), .ref (a_t 2), .long t_det])), ((a_t 1), .inl (g.2.2.1 1, 9, .inr (.inl t_cells))), ((a_t 2), .inl (g.2.2.1 1, 3, .inr (.inl t_parts))), ((a_p1 0), .inr (1, [.ref (a_p1 1), .ref (a_p1 2), .ref (a_p1 3), .ref (a_p1 4), .ref (a_p1 5), .int p1_told, .int p1_lines, .int p1_kinds, .int p1_acts])), ((a_p1 1), .inl (g.2.2.1 0, 15, .inl p1_numbers)), ((a_p1 2), .inl (g.2.2.1 0, 144, .inl p1_cells)), ((a_p1 3), .inl (g.2.2.1 0, 31, .inl p1_rows)), ((a_p1 4), .inl (g.2.2.1 0, 31, .inl p1_sizes))] sz) := by
  refine rw_meti (by decide) (Nat.le_of_ble_eq_true rfl) (lv0 := [(0, .ref ((a_t 0))), (1, .ref ((a_p1 0))), (2, .int v2), (3, .int v3), (4, .int v4)]) rfl ?_
  intro p e s m args below meth c ls Q A cx hret hG hAb hb0 hA hP hD hl
  have hx := cx.1
  have hb := cx.2.1
  have hG0 := hG
  have hGk : ∀ {H : Heap} {locs : List Loc}, va_S A s.heap H locs → GE g s H := fun hS => hG0.keptS hAb hS
  have hSb : ∀ {H : Heap} {locs : List Loc}, va_S A s.heap H locs → va_S (fun a => g.1 ≤ a) s.heap H locs := fun hS => ⟨hS.1, fun q h1 h2 => hS.2.1 q h1 (fun z => h2 (hAb q z)), fun l hl => hAb _ (hS.2.2 l hl)⟩
  have hS : va_S A s.heap s.heap [] := va_S.rf
  have hrt : ∀ (u : Nat → Nat) (pc : Nat) (ls : Array Slot) (v : Int32) (x_t_cells : Nat → Int64) (x_t_parts : Nat → Int64) (x_t_det : Int64) (H : Heap) (locs : List Loc), decode cX4_fewestLost pc = .ok (.ireturn, 1) → some (v, x_t_cells, x_t_parts, x_t_det) = some (o, o_t_cells, o_t_parts, o_t_det) → va_P g.2.1 vwCl [((a_t 0), .inr (3, [.ref (a_t 1), .ref (a_t 2), .long x_t_det])), ((a_t 1), .inl (g.2.2.1 1, 9, .inr (.inl x_t_cells))), ((a_t 2), .inl (g.2.2.1 1, 3, .inr (.inl x_t_parts))), ((a_p1 0), .inr (1, [.ref (a_p1 1), .ref (a_p1 2), .ref (a_p1 3), .ref (a_p1 4), .ref (a_p1 5), .int p1_told, .int p1_lines, .int p1_kinds, .int p1_acts])), ((a_p1 1), .inl (g.2.2.1 0, 15, .inl p1_numbers)), ((a_p1 2), .inl (g.2.2.1 0, 144, .inl p1_cells)), ((a_p1 3), .inl (g.2.2.1 0, 31, .inl p1_rows)), ((a_p1 4), .inl (g.2.2.1 0, 31, .inl p1_sizes))] H → va_D A [((a_t 0), .inr (3, [.ref (a_t 1), .ref (a_t 2), .long x_t_det])), ((a_t 1), .inl (g.2.2.1 1, 9, .inr (.inl x_t_cells))), ((a_t 2), .inl (g.2.2.1 1, 3, .inr (.inl x_t_parts))), ((a_p1 0), .inr (1, [.ref (a_p1 1), .ref (a_p1 2), .ref (a_p1 3), .ref (a_p1 4), .ref (a_p1 5), .int p1_told, .int p1_lines, .int p1_kinds, .int p1_acts])), ((a_p1 1), .inl (g.2.2.1 0, 15, .inl p1_numbers)), ((a_p1 2), .inl (g.2.2.1 0, 144, .inl p1_cells)), ((a_p1 3), .inl (g.2.2.1 0, 31, .inl p1_rows)), ((a_p1 4), .inl (g.2.2.1 0, 31, .inl p1_sizes))] → va_S A s.heap H locs → W p l e ⟨5, 0, 0, 123⟩ s m args below meth c H locs 0 0 Q (F0 m pc ls [.int v]) := by
    intro u pc ls v x_t_cells x_t_parts x_t_det H locs hd h hP hD hS
    cases h
    exact hret u _ _ _ _ _ hd rfl hP hD hS
  have w49 : ∀ (k9 : (Nat → Int64) → (Nat → Int64) → Int64 → (Nat → Int32) → (Nat → Int32) → (Nat → Int32) → (Nat → Int32) → Int32 → Int32 → Int32 → Int32 → Int32 → Int32 → Option (Int32 × (Nat → Int64) × (Nat → Int64) × Int64)) (hk9 : ∀ (t_cells : Nat → Int64) (t_parts : Nat → Int64) (t_det : Int64) (v2 : Int32) (v3 : Int32) (v4 : Int32) (v5 : Int32) (v6 : Int32) (H : Heap) (locs : List Loc), va_P g.2.1 vwCl [((a_t 0), .inr (3, [.ref (a_t 1), .ref (a_t 2), .long t_det])), ((a_t 1), .inl (g.2.2.1 1, 9, .inr (.inl t_cells))), ((a_t 2), .inl (g.2.2.1 1, 3, .inr (.inl t_parts))), ((a_p1 0), .inr (1, [.ref (a_p1 1), .ref (a_p1 2), .ref (a_p1 3), .ref (a_p1 4), .ref (a_p1 5), .int p1_told, .int p1_lines, .int p1_kinds, .int p1_acts])), ((a_p1 1), .inl (g.2.2.1 0, 15, .inl p1_numbers)), ((a_p1 2), .inl (g.2.2.1 0, 144, .inl p1_cells)), ((a_p1 3), .inl (g.2.2.1 0, 31, .inl p1_rows)), ((a_p1 4), .inl (g.2.2.1 0, 31, .inl p1_sizes))] H → va_D A [((a_t 0), .inr (3, [.ref (a_t 1), .ref (a_t 2), .long t_det])), ((a_t 1), .inl (g.2.2.1 1, 9, .inr (.inl t_cells))), ((a_t 2), .inl (g.2.2.1 1, 3, .inr (.inl t_parts))), ((a_p1 0), .inr (1, [.ref (a_p1 1), .ref (a_p1 2), .ref (a_p1 3), .ref (a_p1 4), .ref (a_p1 5), .int p1_told, .int p1_lines, .int p1_kinds, .int p1_acts])), ((a_p1 1), .inl (g.2.2.1 0, 15, .inl p1_numbers)), ((a_p1 2), .inl (g.2.2.1 0, 144, .inl p1_cells)), ((a_p1 3), .inl (g.2.2.1 0, 31, .inl p1_rows)), ((a_p1 4), .inl (g.2.2.1 0, 31, .inl p1_sizes))] → va_S A s.heap H locs → ∀ (ls : Array Slot), lv_has ls 7 [(0, .ref ((a_t 0))), (1, .ref ((a_p1 0))), (2, .int v2), (3, .int v3), (4, .int v4), (5, .int v5), (6, .int v6)] → k9 t_cells t_parts t_det p1_numbers p1_cells p1_rows p1_sizes p1_acts v2 v3 v4 v5 v6 = some (o, o_t_cells, o_t_parts, o_t_det) → W p l e ⟨5, 0, 0, 123⟩ s m args below meth c H locs 0 0 Q (F0 m 9 ls [])) (t_cells : Nat → Int64) (t_parts : Nat → Int64) (t_det : Int64) (v2 : Int32) (v3 : Int32) (v4 : Int32) (v5 : Int32) (v6 : Int32) (H : Heap) (locs : List Loc), va_P g.2.1 vwCl [((a_t 0), .inr (3, [.ref (a_t 1), .ref (a_t 2), .long t_det])), ((a_t 1), .inl (g.2.2.1 1, 9, .inr (.inl t_cells))), ((a_t 2), .inl (g.2.2.1 1, 3, .inr (.inl t_parts))), ((a_p1 0), .inr (1, [.ref (a_p1 1), .ref (a_p1 2), .ref (a_p1 3), .ref (a_p1 4), .ref (a_p1 5), .int p1_told, .int p1_lines, .int p1_kinds, .int p1_acts])), ((a_p1 1), .inl (g.2.2.1 0, 15, .inl p1_numbers)), ((a_p1 2), .inl (g.2.2.1 0, 144, .inl p1_cells)), ((a_p1 3), .inl (g.2.2.1 0, 31, .inl p1_rows)), ((a_p1 4), .inl (g.2.2.1 0, 31, .inl p1_sizes))] H → va_D A [((a_t 0), .inr (3, [.ref (a_t 1), .ref (a_t 2), .long t_det])), ((a_t 1), .inl (g.2.2.1 1, 9, .inr (.inl t_cells))), ((a_t 2), .inl (g.2.2.1 1, 3, .inr (.inl t_parts))), ((a_p1 0), .inr (1, [.ref (a_p1 1), .ref (a_p1 2), .ref (a_p1 3), .ref (a_p1 4), .ref (a_p1 5), .int p1_told, .int p1_lines, .int p1_kinds, .int p1_acts])), ((a_p1 1), .inl (g.2.2.1 0, 15, .inl p1_numbers)), ((a_p1 2), .inl (g.2.2.1 0, 144, .inl p1_cells)), ((a_p1 3), .inl (g.2.2.1 0, 31, .inl p1_rows)), ((a_p1 4), .inl (g.2.2.1 0, 31, .inl p1_sizes))] → va_S A s.heap H locs → ∀ (ls : Array Slot), lv_has ls 7 [(0, .ref ((a_t 0))), (1, .ref ((a_p1 0))), (2, .int v2), (3, .int v3), (4, .int v4), (5, .int v5), (6, .int v6)] → fX4_fewestLost_49 k9 t_cells t_parts t_det p1_numbers p1_cells p1_rows p1_sizes p1_acts v2 v3 v4 v5 v6 = some (o, o_t_cells, o_t_parts, o_t_det) → W p l e ⟨5, 0, 0, 123⟩ s m args below meth c H locs 0 0 Q (F0 m 49 ls []) := by
    intro k9 hk9 t_cells t_parts t_det v2 v3 v4 v5 v6 H locs hP hD hS ls hl h
    unfold fX4_fewestLost_49 at h
    have hG := hGk hS
    refine lv_iinc (v := v6 + 1) (lv' := [(6, .int (v6 + 1)), (0, .ref ((a_t 0))), (1, .ref ((a_p1 0))), (2, .int v2), (3, .int v3), (4, .int v4), (5, .int v5)]) hx hb dX4_fewestLost_49 hl (k := 6) rfl rfl (by decide) rfl (fun ls hl => ?_)
    refine lv_goto (tgt := 9) hx hb dX4_fewestLost_52 (by decide) ?_
    exact hk9 t_cells t_parts t_det v2 v3 v4 v5 (v6 + 1) _ _ hP hD hS _ (lv_sub hl [1, 2, 3, 4, 5, 6, 0] rfl) h
  have w9 : ∀ (n : Nat) (t_cells : Nat → Int64) (t_parts : Nat → Int64) (t_det : Int64) (v2 : Int32) (v3 : Int32) (v4 : Int32) (v5 : Int32) (v6 : Int32) (H : Heap) (locs : List Loc), va_P g.2.1 vwCl [((a_t 0), .inr (3, [.ref (a_t 1), .ref (a_t 2), .long t_det])), ((a_t 1), .inl (g.2.2.1 1, 9, .inr (.inl t_cells))), ((a_t 2), .inl (g.2.2.1 1, 3, .inr (.inl t_parts))), ((a_p1 0), .inr (1, [.ref (a_p1 1), .ref (a_p1 2), .ref (a_p1 3), .ref (a_p1 4), .ref (a_p1 5), .int p1_told, .int p1_lines, .int p1_kinds, .int p1_acts])), ((a_p1 1), .inl (g.2.2.1 0, 15, .inl p1_numbers)), ((a_p1 2), .inl (g.2.2.1 0, 144, .inl p1_cells)), ((a_p1 3), .inl (g.2.2.1 0, 31, .inl p1_rows)), ((a_p1 4), .inl (g.2.2.1 0, 31, .inl p1_sizes))] H → va_D A [((a_t 0), .inr (3, [.ref (a_t 1), .ref (a_t 2), .long t_det])), ((a_t 1), .inl (g.2.2.1 1, 9, .inr (.inl t_cells))), ((a_t 2), .inl (g.2.2.1 1, 3, .inr (.inl t_parts))), ((a_p1 0), .inr (1, [.ref (a_p1 1), .ref (a_p1 2), .ref (a_p1 3), .ref (a_p1 4), .ref (a_p1 5), .int p1_told, .int p1_lines, .int p1_kinds, .int p1_acts])), ((a_p1 1), .inl (g.2.2.1 0, 15, .inl p1_numbers)), ((a_p1 2), .inl (g.2.2.1 0, 144, .inl p1_cells)), ((a_p1 3), .inl (g.2.2.1 0, 31, .inl p1_rows)), ((a_p1 4), .inl (g.2.2.1 0, 31, .inl p1_sizes))] → va_S A s.heap H locs → ∀ (ls : Array Slot), lv_has ls 7 [(0, .ref ((a_t 0))), (1, .ref ((a_p1 0))), (2, .int v2), (3, .int v3), (4, .int v4), (5, .int v5), (6, .int v6)] → fX4_fewestLost_9  n t_cells t_parts t_det p1_numbers p1_cells p1_rows p1_sizes p1_acts v2 v3 v4 v5 v6 = some (o, o_t_cells, o_t_parts, o_t_det) → W p l e ⟨5, 0, 0, 123⟩ s m args below meth c H locs 0 0 Q (F0 m 9 ls []) := by
    intro n
    induction n with
    | zero => intro t_cells t_parts t_det v2 v3 v4 v5 v6 H locs hP hD hS ls hl h; cases (fX4_fewestLost_9_z  t_cells t_parts t_det p1_numbers p1_cells p1_rows p1_sizes p1_acts v2 v3 v4 v5 v6).symm.trans h
    | succ n ih =>
    intro t_cells t_parts t_det v2 v3 v4 v5 v6 H locs hP hD hS ls hl h
    have h := (fX4_fewestLost_9_s  n t_cells t_parts t_det p1_numbers p1_cells p1_rows p1_sizes p1_acts v2 v3 v4 v5 v6).symm.trans h
    have hG := hGk hS
    refine lv_iload hx hb dX4_fewestLost_9 (lv_at hl 6 rfl) ?_
    refine lv_aload_n hx hb dX4_fewestLost_11 rfl (lv_at hl 1 rfl) ?_
    obtain ⟨r3, hr4, h⟩ := bnd h
    refine ro_i (runVN (As := []) (rest := [.int v6]) hG cx hl.1 (ctX1_allPlies l g a_p1 p1_told p1_lines p1_kinds p1_acts p1_sizes r3 hr4) kmX1_allPlies kvX1_allPlies nm_94 ⟨rfl, rfl⟩ ⟨Nat.le_of_ble_eq_true rfl, Nat.le_of_ble_eq_true rfl⟩ (roV (q0 := 3) (ci := 1) hG (hP.sub [3, 7] rfl) hP rfl rfl) rfl rfl (Nat.le_of_ble_eq_true rfl) dX4_fewestLost_12 ⟨Nat.le_of_ble_eq_true rfl, Nat.le_of_ble_eq_true rfl⟩) ?_
    refine lv_icmp_ge (tgt := 55) hx hb dX4_fewestLost_15 (by decide) (fun c5 => ?_) (fun c5 => ?_)
    · have h := itp c5 h
      refine lv_iload hx hb dX4_fewestLost_55 (lv_at hl 5 rfl) ?_
      exact hrt (fun _ => 0) _ _ v5 t_cells t_parts t_det _ _ dX4_fewestLost_57 h (hP.sub [0, 1, 2, 3, 4, 5, 6, 7] rfl) (hD.sub [0, 1, 2, 3, 4, 5, 6, 7] (by decide) rfl) hS
    · have h := itn c5 h
      refine lv_iload hx hb dX4_fewestLost_18 (lv_at hl 6 rfl) ?_
      refine ro_i (runS (As := [.int v6]) (rest := []) cx hl.1 (ctJ6_bitCount_0f7a4 l g v6 (fJ6_bitCount_0f7a4 v6) rfl) kmJ6_bitCount_0f7a4 ksJ6_bitCount_0f7a4 lm_X4_86 ⟨rfl, rfl⟩ ⟨Nat.le_of_ble_eq_true rfl, Nat.le_of_ble_eq_true rfl⟩ (roS hG (hP.sub [] rfl)) rfl rfl (Nat.le_of_ble_eq_true rfl) dX4_fewestLost_20 ⟨Nat.le_of_ble_eq_true rfl, Nat.le_of_ble_eq_true rfl⟩) ?_
      refine lv_iload hx hb dX4_fewestLost_23 (lv_at hl 5 rfl) ?_
      refine ro_i (runS (As := [.int v5]) (rest := [.int (fJ6_bitCount_0f7a4 v6)]) cx hl.1 (ctJ6_bitCount_0f7a4 l g v5 (fJ6_bitCount_0f7a4 v5) rfl) kmJ6_bitCount_0f7a4 ksJ6_bitCount_0f7a4 lm_X4_86 ⟨rfl, rfl⟩ ⟨Nat.le_of_ble_eq_true rfl, Nat.le_of_ble_eq_true rfl⟩ (roS hG (hP.sub [] rfl)) rfl rfl (Nat.le_of_ble_eq_true rfl) dX4_fewestLost_25 ⟨Nat.le_of_ble_eq_true rfl, Nat.le_of_ble_eq_true rfl⟩) ?_
      refine lv_icmp_ge (tgt := 49) hx hb dX4_fewestLost_28 (by decide) (fun c6 => ?_) (fun c6 => ?_)
      · have h := itp c6 h
        exact w49 _ ih t_cells t_parts t_det v2 v3 v4 v5 v6 _ _ hP hD hS _ (lv_sub hl [0, 1, 2, 3, 4, 5, 6] rfl) h
      · have h := itn c6 h
        refine lv_aload_n hx hb dX4_fewestLost_31 rfl (lv_at hl 0 rfl) ?_
        refine lv_aload_n hx hb dX4_fewestLost_32 rfl (lv_at hl 1 rfl) ?_
        refine lv_iload hx hb dX4_fewestLost_33 (lv_at hl 6 rfl) ?_
        refine lv_iload_n hx hb dX4_fewestLost_35 rfl (lv_at hl 2 rfl) ?_
        refine lv_iload_n hx hb dX4_fewestLost_36 rfl (lv_at hl 3 rfl) ?_
        refine lv_iload hx hb dX4_fewestLost_37 (lv_at hl 4 rfl) ?_
        obtain ⟨r8, w9, w10, w11, hr7, h⟩ := ob4_out h
        refine rw_z (WN := fun u12 => [((a_t 0), .inr (3, [.ref (a_t 1), .ref (a_t 2), .long w11])), ((a_t 1), .inl (g.2.2.1 1, 9, .inr (.inl w9))), ((a_t 2), .inl (g.2.2.1 1, 3, .inr (.inl w10))), ((a_p1 0), .inr (1, [.ref (a_p1 1), .ref (a_p1 2), .ref (a_p1 3), .ref (a_p1 4), .ref (a_p1 5), .int p1_told, .int p1_lines, .int p1_kinds, .int p1_acts])), ((a_p1 1), .inl (g.2.2.1 0, 15, .inl p1_numbers)), ((a_p1 2), .inl (g.2.2.1 0, 144, .inl p1_cells)), ((a_p1 3), .inl (g.2.2.1 0, 31, .inl p1_rows)), ((a_p1 4), .inl (g.2.2.1 0, 31, .inl p1_sizes))]) (wr := []) (runV (As := [.ref ((a_p1 0)), .int v6, .int v2, .int v3, .int v4]) (rest := []) cx hl.1 (ctX4_withinLimits l g H.size a_t a_p1 t_det t_cells t_parts p1_told p1_lines p1_kinds p1_acts p1_numbers p1_cells p1_rows p1_sizes v6 v2 v3 v4 r8 w9 w10 w11 hr7) kmX4_withinLimits kvX4_withinLimits lm_X4_91 ⟨rfl, rfl⟩ ⟨Nat.le_of_ble_eq_true rfl, Nat.le_of_ble_eq_true rfl⟩ (rwV (q0 := 0) (ci := 3) hG (hP.sub [0, 1, 2, 3, 4, 5, 6, 7] rfl) (hD.sub [0, 1, 2, 3, 4, 5, 6, 7] (by decide) rfl) hAb hb0 hS hP rfl rfl) rfl rfl (Nat.le_of_ble_eq_true rfl) dX4_fewestLost_39 ⟨Nat.le_of_ble_eq_true rfl, Nat.le_of_ble_eq_true rfl⟩) hP hD hS hA [0, 1, 2, 3, 4, 5, 6, 7] [] rfl rfl (by decide) (by decide) (fun _ => rfl) (fun hz13 u12 H locs hP hD hS => ?_)
        have hG := hGk hS
        refine lv_if_ne (tgt := 49) hx hb dX4_fewestLost_42 (by decide) (fun c14 => ?_) (fun c14 => ?_)
        · have h := itn c14 h
          exact w49 _ ih w9 w10 w11 v2 v3 v4 v5 v6 _ _ hP hD hS _ (lv_sub hl [0, 1, 2, 3, 4, 5, 6] rfl) h
        · have h := itp c14 h
          refine lv_iload hx hb dX4_fewestLost_45 (lv_at hl 6 rfl) ?_
          refine lv_istore (lv' := [(5, .int v6), (0, .ref ((a_t 0))), (1, .ref ((a_p1 0))), (2, .int v2), (3, .int v3), (4, .int v4), (6, .int v6)]) hx hb dX4_fewestLost_47 hl (by decide) rfl (fun ls hl => ?_)
          exact w49 _ ih w9 w10 w11 v2 v3 v4 v6 v6 _ _ hP hD hS _ (lv_sub hl [1, 2, 3, 4, 5, 0, 6] rfl) h
  unfold fX4_fewestLost at h
  refine lv_aload_n hx hb dX4_fewestLost_0 rfl (lv_at hl 1 rfl) ?_
  obtain ⟨r1, hr2, h⟩ := bnd h
  refine ro_i (runVN (As := []) (rest := []) hG cx hl.1 (ctX1_allPlies l g a_p1 p1_told p1_lines p1_kinds p1_acts p1_sizes r1 hr2) kmX1_allPlies kvX1_allPlies nm_94 ⟨rfl, rfl⟩ ⟨Nat.le_of_ble_eq_true rfl, Nat.le_of_ble_eq_true rfl⟩ (roV (q0 := 3) (ci := 1) hG (hP.sub [3, 7] rfl) hP rfl rfl) rfl rfl (Nat.le_of_ble_eq_true rfl) dX4_fewestLost_1 ⟨Nat.le_of_ble_eq_true rfl, Nat.le_of_ble_eq_true rfl⟩) ?_
  refine lv_istore (lv' := [(5, .int r1), (0, .ref ((a_t 0))), (1, .ref ((a_p1 0))), (2, .int v2), (3, .int v3), (4, .int v4)]) hx hb dX4_fewestLost_4 hl (by decide) rfl (fun ls hl => ?_)
  refine lv_iconst (v := 0) hx hb dX4_fewestLost_6 (by decide) ?_
  refine lv_istore (lv' := [(6, .int (0)), (5, .int r1), (0, .ref ((a_t 0))), (1, .ref ((a_p1 0))), (2, .int v2), (3, .int v3), (4, .int v4)]) hx hb dX4_fewestLost_7 hl (by decide) rfl (fun ls hl => ?_)
  exact w9 FU t_cells t_parts t_det v2 v3 v4 r1 0 _ _ hP hD hS _ (lv_sub hl [2, 3, 4, 5, 6, 1, 0] rfl) h
-- X4_commonDivisor
theorem dX4_commonDivisor_0 : decode cX4_commonDivisor 0 = .ok (.lload_n 0, 1) := by decide +kernel
theorem dX4_commonDivisor_1 : decode cX4_commonDivisor 1 = .ok (.lstore 4, 2) := by decide +kernel
theorem dX4_commonDivisor_3 : decode cX4_commonDivisor 3 = .ok (.lload_n 2, 1) := by decide +kernel
theorem dX4_commonDivisor_4 : decode cX4_commonDivisor 4 = .ok (.lstore 6, 2) := by decide +kernel
theorem dX4_commonDivisor_6 : decode cX4_commonDivisor 6 = .ok (.iconst 0, 1) := by decide +kernel
theorem dX4_commonDivisor_7 : decode cX4_commonDivisor 7 = .ok (.istore 8, 2) := by decide +kernel
theorem dX4_commonDivisor_9 : decode cX4_commonDivisor 9 = .ok (.iload 8, 2) := by decide +kernel
theorem dX4_commonDivisor_11 : decode cX4_commonDivisor 11 = .ok (.sipush 200, 3) := by decide +kernel
theorem dX4_commonDivisor_14 : decode cX4_commonDivisor 14 = .ok (.if_icmp .ge 31, 3) := by decide +kernel
theorem dX4_commonDivisor_17 : decode cX4_commonDivisor 17 = .ok (.lload 6, 2) := by decide +kernel
theorem dX4_commonDivisor_19 : decode cX4_commonDivisor 19 = .ok (.lconst 0, 1) := by decide +kernel
theorem dX4_commonDivisor_20 : decode cX4_commonDivisor 20 = .ok (.lcmp, 1) := by decide +kernel
theorem dX4_commonDivisor_21 : decode cX4_commonDivisor 21 = .ok (.ifCond .eq 24, 3) := by decide +kernel
theorem dX4_commonDivisor_24 : decode cX4_commonDivisor 24 = .ok (.lload 4, 2) := by decide +kernel
theorem dX4_commonDivisor_26 : decode cX4_commonDivisor 26 = .ok (.lload 6, 2) := by decide +kernel
theorem dX4_commonDivisor_28 : decode cX4_commonDivisor 28 = .ok (.lrem, 1) := by decide +kernel
theorem dX4_commonDivisor_29 : decode cX4_commonDivisor 29 = .ok (.lstore 9, 2) := by decide +kernel
theorem dX4_commonDivisor_31 : decode cX4_commonDivisor 31 = .ok (.lload 6, 2) := by decide +kernel
theorem dX4_commonDivisor_33 : decode cX4_commonDivisor 33 = .ok (.lstore 4, 2) := by decide +kernel
theorem dX4_commonDivisor_35 : decode cX4_commonDivisor 35 = .ok (.lload 9, 2) := by decide +kernel
theorem dX4_commonDivisor_37 : decode cX4_commonDivisor 37 = .ok (.lstore 6, 2) := by decide +kernel
theorem dX4_commonDivisor_39 : decode cX4_commonDivisor 39 = .ok (.iinc 8 1, 3) := by decide +kernel
theorem dX4_commonDivisor_42 : decode cX4_commonDivisor 42 = .ok (.goto (-33), 3) := by decide +kernel
theorem dX4_commonDivisor_45 : decode cX4_commonDivisor 45 = .ok (.lload 4, 2) := by decide +kernel
theorem dX4_commonDivisor_47 : decode cX4_commonDivisor 47 = .ok (.lreturn, 1) := by decide +kernel
noncomputable def fX4_commonDivisor_9  : Nat → Int64 → Int64 → Int32 → Option (Int64)
  | 0, _, _, _ => none
  | n + 1, v4, v6, v8 => (if 200 ≤ v8 then some v4 else (if (lg_cmp v6 0) = 0 then some v4 else nz v6 (fX4_commonDivisor_9 n v6 (lrem v4 v6) (v8 + 1))))
theorem fX4_commonDivisor_9_z  (v4 : Int64) (v6 : Int64) (v8 : Int32) : fX4_commonDivisor_9  0 v4 v6 v8 = none := rfl
theorem fX4_commonDivisor_9_s  (n : Nat) (v4 : Int64) (v6 : Int64) (v8 : Int32) : fX4_commonDivisor_9  (n + 1) v4 v6 v8 = (if 200 ≤ v8 then some v4 else (if (lg_cmp v6 0) = 0 then some v4 else nz v6 (fX4_commonDivisor_9 n v6 (lrem v4 v6) (v8 + 1)))) := rfl
noncomputable def fX4_commonDivisor  (v0 : Int64) (v2 : Int64) : Option (Int64) := fX4_commonDivisor_9 FU v0 v2 0
set_option maxHeartbeats 4000000 in
set_option maxRecDepth 100000 in
theorem ctX4_commonDivisor (l : Launch) (g : GT) (v0 : Int64) (v2 : Int64) (o : Int64) (h : fX4_commonDivisor v0 v2 = some o) : Met l yX4_commonDivisor (Cond.code yX4_commonDivisor cX4_commonDivisor 11 (some .long) :: Tw) ⟨0, 0, 0, 0⟩ (va_Pc [.long v0, .long v2] (roB g [])) (vp_Sl (fun x => x = o)) 0 0 (fun _ => False) := by
  refine ro_metl (by decide) (Nat.le_of_ble_eq_true rfl) (lv0 := [(0, .long v0), (2, .long v2)]) rfl ?_
  intro p e s m args below meth c ls Q cx hret hG hP hl
  have hx := cx.1
  have hb := cx.2.1
  have hG0 := hG
  have w9 : ∀ (n : Nat) (v4 : Int64) (v6 : Int64) (v8 : Int32) (ls : Array Slot), lv_has ls 11 [(4, .long v4), (6, .long v6), (8, .int v8)] → fX4_commonDivisor_9  n v4 v6 v8 = some o → W p l e ⟨0, 0, 0, 0⟩ s m args below meth c s.heap [] 0 0 Q (F0 m 9 ls []) := by
    intro n
    induction n with
    | zero => intro v4 v6 v8 ls hl h; cases (fX4_commonDivisor_9_z  v4 v6 v8).symm.trans h
    | succ n ih =>
    intro v4 v6 v8 ls hl h
    have h := (fX4_commonDivisor_9_s  n v4 v6 v8).symm.trans h
    refine lv_iload hx hb dX4_commonDivisor_9 (lv_at hl 2 rfl) ?_
    refine lv_sipush (v := 200) hx hb dX4_commonDivisor_11 (by decide) ?_
    refine lv_icmp_ge (tgt := 45) hx hb dX4_commonDivisor_14 (by decide) (fun c1 => ?_) (fun c1 => ?_)
    · have h := itp c1 h
      refine lv_lload hx hb dX4_commonDivisor_45 (lv_at hl 0 rfl) ?_
      exact hret _ _ _ dX4_commonDivisor_47 (Option.some.inj h)
    · have h := itn c1 h
      refine lv_lload hx hb dX4_commonDivisor_17 (lv_at hl 1 rfl) ?_
      refine lv_lconst (v := 0) hx hb dX4_commonDivisor_19 (by decide) ?_
      refine W.lcmp hx hb dX4_commonDivisor_20 ?_
      refine lv_if_eq (tgt := 45) hx hb dX4_commonDivisor_21 (by decide) (fun c2 => ?_) (fun c2 => ?_)
      · have h := itp c2 h
        refine lv_lload hx hb dX4_commonDivisor_45 (lv_at hl 0 rfl) ?_
        exact hret _ _ _ dX4_commonDivisor_47 (Option.some.inj h)
      · have h := itn c2 h
        refine lv_lload hx hb dX4_commonDivisor_24 (lv_at hl 0 rfl) ?_
        refine lv_lload hx hb dX4_commonDivisor_26 (lv_at hl 1 rfl) ?_
        obtain ⟨hz3, h⟩ := nz_out h
        refine xv_lrem hx hb dX4_commonDivisor_28 hz3 ?_
        refine lv_lstore (lv' := [(9, .long (lrem v4 v6)), (4, .long v4), (6, .long v6), (8, .int v8)]) hx hb dX4_commonDivisor_29 hl (by decide) rfl (fun ls hl => ?_)
        refine lv_lload hx hb dX4_commonDivisor_31 (lv_at hl 2 rfl) ?_
        refine lv_lstore (lv' := [(4, .long v6), (9, .long (lrem v4 v6)), (6, .long v6), (8, .int v8)]) hx hb dX4_commonDivisor_33 hl (by decide) rfl (fun ls hl => ?_)
        refine lv_lload hx hb dX4_commonDivisor_35 (lv_at hl 1 rfl) ?_
        refine lv_lstore (lv' := [(6, .long (lrem v4 v6)), (4, .long v6), (9, .long (lrem v4 v6)), (8, .int v8)]) hx hb dX4_commonDivisor_37 hl (by decide) rfl (fun ls hl => ?_)
        refine lv_iinc (v := v8 + 1) (lv' := [(8, .int (v8 + 1)), (6, .long (lrem v4 v6)), (4, .long v6), (9, .long (lrem v4 v6))]) hx hb dX4_commonDivisor_39 hl (k := 3) rfl rfl (by decide) rfl (fun ls hl => ?_)
        refine lv_goto (tgt := 9) hx hb dX4_commonDivisor_42 (by decide) ?_
        exact ih v6 (lrem v4 v6) (v8 + 1) _ (lv_sub hl [2, 1, 0] rfl) h
  unfold fX4_commonDivisor at h
  refine lv_lload_n hx hb dX4_commonDivisor_0 rfl (lv_at hl 0 rfl) ?_
  refine lv_lstore (lv' := [(4, .long v0), (0, .long v0), (2, .long v2)]) hx hb dX4_commonDivisor_1 hl (by decide) rfl (fun ls hl => ?_)
  refine lv_lload_n hx hb dX4_commonDivisor_3 rfl (lv_at hl 2 rfl) ?_
  refine lv_lstore (lv' := [(6, .long v2), (4, .long v0), (0, .long v0), (2, .long v2)]) hx hb dX4_commonDivisor_4 hl (by decide) rfl (fun ls hl => ?_)
  refine lv_iconst (v := 0) hx hb dX4_commonDivisor_6 (by decide) ?_
  refine lv_istore (lv' := [(8, .int (0)), (6, .long v2), (4, .long v0), (0, .long v0), (2, .long v2)]) hx hb dX4_commonDivisor_7 hl (by decide) rfl (fun ls hl => ?_)
  exact w9 FU v0 v2 0 _ (lv_sub hl [2, 1, 0] rfl) h
-- X4_inLowestTerms
theorem dX4_inLowestTerms_0 : decode cX4_inLowestTerms 0 = .ok (.lload_n 0, 1) := by decide +kernel
theorem dX4_inLowestTerms_1 : decode cX4_inLowestTerms 1 = .ok (.invokestatic 51, 3) := by decide +kernel
theorem dX4_inLowestTerms_4 : decode cX4_inLowestTerms 4 = .ok (.lload_n 2, 1) := by decide +kernel
theorem dX4_inLowestTerms_5 : decode cX4_inLowestTerms 5 = .ok (.invokestatic 51, 3) := by decide +kernel
theorem dX4_inLowestTerms_8 : decode cX4_inLowestTerms 8 = .ok (.invokestatic 95, 3) := by decide +kernel
theorem dX4_inLowestTerms_11 : decode cX4_inLowestTerms 11 = .ok (.lstore 5, 2) := by decide +kernel
theorem dX4_inLowestTerms_13 : decode cX4_inLowestTerms 13 = .ok (.lload 5, 2) := by decide +kernel
theorem dX4_inLowestTerms_15 : decode cX4_inLowestTerms 15 = .ok (.lconst 0, 1) := by decide +kernel
theorem dX4_inLowestTerms_16 : decode cX4_inLowestTerms 16 = .ok (.lcmp, 1) := by decide +kernel
theorem dX4_inLowestTerms_17 : decode cX4_inLowestTerms 17 = .ok (.ifCond .ne 5, 3) := by decide +kernel
theorem dX4_inLowestTerms_20 : decode cX4_inLowestTerms 20 = .ok (.lconst 0, 1) := by decide +kernel
theorem dX4_inLowestTerms_21 : decode cX4_inLowestTerms 21 = .ok (.lreturn, 1) := by decide +kernel
theorem dX4_inLowestTerms_22 : decode cX4_inLowestTerms 22 = .ok (.lload_n 2, 1) := by decide +kernel
theorem dX4_inLowestTerms_23 : decode cX4_inLowestTerms 23 = .ok (.lconst 0, 1) := by decide +kernel
theorem dX4_inLowestTerms_24 : decode cX4_inLowestTerms 24 = .ok (.lcmp, 1) := by decide +kernel
theorem dX4_inLowestTerms_25 : decode cX4_inLowestTerms 25 = .ok (.ifCond .ge 9, 3) := by decide +kernel
theorem dX4_inLowestTerms_28 : decode cX4_inLowestTerms 28 = .ok (.lload 5, 2) := by decide +kernel
theorem dX4_inLowestTerms_30 : decode cX4_inLowestTerms 30 = .ok (.lneg, 1) := by decide +kernel
theorem dX4_inLowestTerms_31 : decode cX4_inLowestTerms 31 = .ok (.goto 5, 3) := by decide +kernel
theorem dX4_inLowestTerms_34 : decode cX4_inLowestTerms 34 = .ok (.lload 5, 2) := by decide +kernel
theorem dX4_inLowestTerms_36 : decode cX4_inLowestTerms 36 = .ok (.lstore 7, 2) := by decide +kernel
theorem dX4_inLowestTerms_38 : decode cX4_inLowestTerms 38 = .ok (.iload 4, 2) := by decide +kernel
theorem dX4_inLowestTerms_40 : decode cX4_inLowestTerms 40 = .ok (.ifCond .ne 10, 3) := by decide +kernel
theorem dX4_inLowestTerms_43 : decode cX4_inLowestTerms 43 = .ok (.lload_n 0, 1) := by decide +kernel
theorem dX4_inLowestTerms_44 : decode cX4_inLowestTerms 44 = .ok (.lload 7, 2) := by decide +kernel
theorem dX4_inLowestTerms_46 : decode cX4_inLowestTerms 46 = .ok (.ldiv, 1) := by decide +kernel
theorem dX4_inLowestTerms_47 : decode cX4_inLowestTerms 47 = .ok (.goto 7, 3) := by decide +kernel
theorem dX4_inLowestTerms_50 : decode cX4_inLowestTerms 50 = .ok (.lload_n 2, 1) := by decide +kernel
theorem dX4_inLowestTerms_51 : decode cX4_inLowestTerms 51 = .ok (.lload 7, 2) := by decide +kernel
theorem dX4_inLowestTerms_53 : decode cX4_inLowestTerms 53 = .ok (.ldiv, 1) := by decide +kernel
theorem dX4_inLowestTerms_54 : decode cX4_inLowestTerms 54 = .ok (.lreturn, 1) := by decide +kernel
noncomputable def fX4_inLowestTerms_36  (v0 : Int64) (v2 : Int64) (v4 : Int32) (z0 : Int64) : Option (Int64) := (if v4 = 0 then nz z0 (some (v0 / z0)) else nz z0 (some (v2 / z0)))
noncomputable def fX4_inLowestTerms  (v0 : Int64) (v2 : Int64) (v4 : Int32) : Option (Int64) := (fX4_commonDivisor (labs v0) (labs v2)).bind fun r1 => (if (lg_cmp r1 0) = 0 then some (0) else (if 0 ≤ (lg_cmp v2 0) then fX4_inLowestTerms_36 v0 v2 v4 r1 else fX4_inLowestTerms_36 v0 v2 v4 (-r1)))
set_option maxHeartbeats 4000000 in
set_option maxRecDepth 100000 in
theorem ctX4_inLowestTerms (l : Launch) (g : GT) (v0 : Int64) (v2 : Int64) (v4 : Int32) (o : Int64) (h : fX4_inLowestTerms v0 v2 v4 = some o) : Met l yX4_inLowestTerms (Cond.code yX4_inLowestTerms cX4_inLowestTerms 9 (some .long) :: Tw) ⟨1, 0, 0, 30⟩ (va_Pc [.long v0, .long v2, .int v4] (roB g [])) (vp_Sl (fun x => x = o)) 0 0 (fun _ => False) := by
  refine ro_metl (by decide) (Nat.le_of_ble_eq_true rfl) (lv0 := [(0, .long v0), (2, .long v2), (4, .int v4)]) rfl ?_
  intro p e s m args below meth c ls Q cx hret hG hP hl
  have hx := cx.1
  have hb := cx.2.1
  have hG0 := hG
  have w36 : ∀ (v0 : Int64) (v2 : Int64) (v4 : Int32) (z0 : Int64) (ls : Array Slot), lv_has ls 9 [(0, .long v0), (2, .long v2), (4, .int v4)] → fX4_inLowestTerms_36  v0 v2 v4 z0 = some o → W p l e ⟨1, 0, 0, 30⟩ s m args below meth c s.heap [] 0 0 Q (F0 m 36 ls [.long z0]) := by
    intro v0 v2 v4 z0 ls hl h
    unfold fX4_inLowestTerms_36 at h
    refine lv_lstore (lv' := [(7, .long z0), (0, .long v0), (2, .long v2), (4, .int v4)]) hx hb dX4_inLowestTerms_36 hl (by decide) rfl (fun ls hl => ?_)
    refine lv_iload hx hb dX4_inLowestTerms_38 (lv_at hl 3 rfl) ?_
    refine lv_if_ne (tgt := 50) hx hb dX4_inLowestTerms_40 (by decide) (fun c5 => ?_) (fun c5 => ?_)
    · have h := itn c5 h
      refine lv_lload_n hx hb dX4_inLowestTerms_50 rfl (lv_at hl 2 rfl) ?_
      refine lv_lload hx hb dX4_inLowestTerms_51 (lv_at hl 0 rfl) ?_
      obtain ⟨hz6, h⟩ := nz_out h
      refine lv_ldiv hx hb dX4_inLowestTerms_53 hz6 ?_
      exact hret _ _ _ dX4_inLowestTerms_54 (Option.some.inj h)
    · have h := itp c5 h
      refine lv_lload_n hx hb dX4_inLowestTerms_43 rfl (lv_at hl 1 rfl) ?_
      refine lv_lload hx hb dX4_inLowestTerms_44 (lv_at hl 0 rfl) ?_
      obtain ⟨hz7, h⟩ := nz_out h
      refine lv_ldiv hx hb dX4_inLowestTerms_46 hz7 ?_
      refine lv_goto (tgt := 54) hx hb dX4_inLowestTerms_47 (by decide) ?_
      exact hret _ _ _ dX4_inLowestTerms_54 (Option.some.inj h)
  unfold fX4_inLowestTerms at h
  refine lv_lload_n hx hb dX4_inLowestTerms_0 rfl (lv_at hl 0 rfl) ?_
  refine xm_labs cx hl.1 lm_X4_51 ⟨ksJ9_abs_067f4, kmJ9_abs_067f4.2.1, kmJ9_abs_067f4.1⟩ (Nat.le_of_ble_eq_true rfl) (Nat.le_of_ble_eq_true rfl) (Nat.le_of_ble_eq_true rfl) (Nat.le_of_ble_eq_true rfl) dX4_inLowestTerms_1 ?_
  refine lv_lload_n hx hb dX4_inLowestTerms_4 rfl (lv_at hl 1 rfl) ?_
  refine xm_labs cx hl.1 lm_X4_51 ⟨ksJ9_abs_067f4, kmJ9_abs_067f4.2.1, kmJ9_abs_067f4.1⟩ (Nat.le_of_ble_eq_true rfl) (Nat.le_of_ble_eq_true rfl) (Nat.le_of_ble_eq_true rfl) (Nat.le_of_ble_eq_true rfl) dX4_inLowestTerms_5 ?_
  obtain ⟨r1, hr2, h⟩ := bnd h
  refine ro_l (runS (As := [.long (labs v0), .long (labs v2)]) (rest := []) cx hl.1 (ctX4_commonDivisor l g (labs v0) (labs v2) r1 hr2) kmX4_commonDivisor ksX4_commonDivisor lm_X4_95 ⟨rfl, rfl⟩ ⟨Nat.le_of_ble_eq_true rfl, Nat.le_of_ble_eq_true rfl⟩ (roS hG (hP.sub [] rfl)) rfl rfl (Nat.le_of_ble_eq_true rfl) dX4_inLowestTerms_8 ⟨Nat.le_of_ble_eq_true rfl, Nat.le_of_ble_eq_true rfl⟩) ?_
  refine lv_lstore (lv' := [(5, .long r1), (0, .long v0), (2, .long v2), (4, .int v4)]) hx hb dX4_inLowestTerms_11 hl (by decide) rfl (fun ls hl => ?_)
  refine lv_lload hx hb dX4_inLowestTerms_13 (lv_at hl 0 rfl) ?_
  refine lv_lconst (v := 0) hx hb dX4_inLowestTerms_15 (by decide) ?_
  refine W.lcmp hx hb dX4_inLowestTerms_16 ?_
  refine lv_if_ne (tgt := 22) hx hb dX4_inLowestTerms_17 (by decide) (fun c3 => ?_) (fun c3 => ?_)
  · have h := itn c3 h
    refine lv_lload_n hx hb dX4_inLowestTerms_22 rfl (lv_at hl 2 rfl) ?_
    refine lv_lconst (v := 0) hx hb dX4_inLowestTerms_23 (by decide) ?_
    refine W.lcmp hx hb dX4_inLowestTerms_24 ?_
    refine lv_if_ge (tgt := 34) hx hb dX4_inLowestTerms_25 (by decide) (fun c4 => ?_) (fun c4 => ?_)
    · have h := itp c4 h
      refine lv_lload hx hb dX4_inLowestTerms_34 (lv_at hl 0 rfl) ?_
      exact w36 v0 v2 v4 r1 _ (lv_sub hl [1, 2, 3] rfl) h
    · have h := itn c4 h
      refine lv_lload hx hb dX4_inLowestTerms_28 (lv_at hl 0 rfl) ?_
      refine lv_lneg hx hb dX4_inLowestTerms_30 ?_
      refine lv_goto (tgt := 36) hx hb dX4_inLowestTerms_31 (by decide) ?_
      exact w36 v0 v2 v4 (-r1) _ (lv_sub hl [1, 2, 3] rfl) h
  · have h := itp c3 h
    refine lv_lconst (v := 0) hx hb dX4_inLowestTerms_20 (by decide) ?_
    exact hret _ _ _ dX4_inLowestTerms_21 (Option.some.inj h)
-- X6_isThin
theorem dX6_isThin_0 : decode cX6_isThin 0 = .ok (.aload_n 0, 1) := by decide +kernel
theorem dX6_isThin_1 : decode cX6_isThin 1 = .ok (.invokevirtual 15, 3) := by decide +kernel
theorem dX6_isThin_4 : decode cX6_isThin 4 = .ok (.aload_n 0, 1) := by decide +kernel
theorem dX6_isThin_5 : decode cX6_isThin 5 = .ok (.invokevirtual 21, 3) := by decide +kernel
theorem dX6_isThin_8 : decode cX6_isThin 8 = .ok (.iload_n 1, 1) := by decide +kernel
theorem dX6_isThin_9 : decode cX6_isThin 9 = .ok (.invokestatic 24, 3) := by decide +kernel
theorem dX6_isThin_12 : decode cX6_isThin 12 = .ok (.istore_n 3, 1) := by decide +kernel
theorem dX6_isThin_13 : decode cX6_isThin 13 = .ok (.aload_n 0, 1) := by decide +kernel
theorem dX6_isThin_14 : decode cX6_isThin 14 = .ok (.iload_n 3, 1) := by decide +kernel
theorem dX6_isThin_15 : decode cX6_isThin 15 = .ok (.iload_n 1, 1) := by decide +kernel
theorem dX6_isThin_16 : decode cX6_isThin 16 = .ok (.invokestatic 30, 3) := by decide +kernel
theorem dX6_isThin_19 : decode cX6_isThin 19 = .ok (.iload_n 2, 1) := by decide +kernel
theorem dX6_isThin_20 : decode cX6_isThin 20 = .ok (.invokevirtual 36, 3) := by decide +kernel
theorem dX6_isThin_23 : decode cX6_isThin 23 = .ok (.ireturn, 1) := by decide +kernel
noncomputable def fX6_isThin  (p1_cells : Nat → Int32) (p1_rows : Nat → Int32) (p1_sizes : Nat → Int32) (p1_rooms : Nat → Int32) (p1_acts : Int32) (v1 : Int32) (v2 : Int32) : Option (Int32) := (fX1_row p1_rows p1_acts).bind fun r1 => (fX1_plies p1_sizes p1_acts).bind fun r3 => (fX3_chosen r1 r3 v1).bind fun r5 => (fX1_suits p1_cells p1_rooms p1_acts r5 (fJ6_bitCount_0f7a4 v1) v2).bind fun r7 => some r7
set_option maxHeartbeats 4000000 in
set_option maxRecDepth 100000 in
theorem ctX6_isThin (l : Launch) (g : GT) (a_p1 : Nat → Nat) (p1_told : Int32) (p1_lines : Int32) (p1_kinds : Int32) (p1_acts : Int32) (p1_cells : Nat → Int32) (p1_rows : Nat → Int32) (p1_sizes : Nat → Int32) (p1_rooms : Nat → Int32) (v1 : Int32) (v2 : Int32) (o : Int32) (h : fX6_isThin p1_cells p1_rows p1_sizes p1_rooms p1_acts v1 v2 = some o) : Met l yX6_isThin (Cond.code yX6_isThin cX6_isThin 4 (some .boolean) :: Tw) ⟨5, 0, 0, 122⟩ (va_Pc [.ref ((a_p1 0)), .int v1, .int v2] (roB g [((a_p1 0), .inr (1, [.ref (a_p1 1), .ref (a_p1 2), .ref (a_p1 3), .ref (a_p1 4), .ref (a_p1 5), .int p1_told, .int p1_lines, .int p1_kinds, .int p1_acts])), ((a_p1 2), .inl (g.2.2.1 0, 144, .inl p1_cells)), ((a_p1 3), .inl (g.2.2.1 0, 31, .inl p1_rows)), ((a_p1 4), .inl (g.2.2.1 0, 31, .inl p1_sizes)), ((a_p1 5), .inl (g.2.2.1 0, 31, .inl p1_rooms))])) (vp_Si (fun x => x = o ∧ (x = 0 ∨ x = 1))) 0 0 (fun _ => False) := by
  refine ro_metz (by decide) (Nat.le_of_ble_eq_true rfl) (lv0 := [(0, .ref ((a_p1 0))), (1, .int v1), (2, .int v2)]) rfl ?_
  intro p e s m args below meth c ls Q cx hret hG hP hl
  have hx := cx.1
  have hb := cx.2.1
  have hG0 := hG
  unfold fX6_isThin at h
  refine lv_aload_n hx hb dX6_isThin_0 rfl (lv_at hl 0 rfl) ?_
  obtain ⟨r1, hr2, h⟩ := bnd h
  refine ro_i (runVN (As := []) (rest := []) hG cx hl.1 (ctX1_row l g a_p1 p1_told p1_lines p1_kinds p1_acts p1_rows r1 hr2) kmX1_row kvX1_row nm_82 ⟨rfl, rfl⟩ ⟨Nat.le_of_ble_eq_true rfl, Nat.le_of_ble_eq_true rfl⟩ (roV (q0 := 0) (ci := 1) hG (hP.sub [0, 2] rfl) hP rfl rfl) rfl rfl (Nat.le_of_ble_eq_true rfl) dX6_isThin_1 ⟨Nat.le_of_ble_eq_true rfl, Nat.le_of_ble_eq_true rfl⟩) ?_
  refine lv_aload_n hx hb dX6_isThin_4 rfl (lv_at hl 0 rfl) ?_
  obtain ⟨r3, hr4, h⟩ := bnd h
  refine ro_i (runVN (As := []) (rest := [.int r1]) hG cx hl.1 (ctX1_plies l g a_p1 p1_told p1_lines p1_kinds p1_acts p1_sizes r3 hr4) kmX1_plies kvX1_plies nm_83 ⟨rfl, rfl⟩ ⟨Nat.le_of_ble_eq_true rfl, Nat.le_of_ble_eq_true rfl⟩ (roV (q0 := 0) (ci := 1) hG (hP.sub [0, 3] rfl) hP rfl rfl) rfl rfl (Nat.le_of_ble_eq_true rfl) dX6_isThin_5 ⟨Nat.le_of_ble_eq_true rfl, Nat.le_of_ble_eq_true rfl⟩) ?_
  refine lv_iload_n hx hb dX6_isThin_8 rfl (lv_at hl 1 rfl) ?_
  obtain ⟨r5, hr6, h⟩ := bnd h
  refine ro_i (runSN (As := [.int r1, .int r3, .int v1]) (rest := []) hG cx hl.1 (ctX3_chosen l g r1 r3 v1 r5 hr6) kmX3_chosen ksX3_chosen nm_84 ⟨rfl, rfl⟩ ⟨Nat.le_of_ble_eq_true rfl, Nat.le_of_ble_eq_true rfl⟩ (roS hG (hP.sub [] rfl)) rfl rfl (Nat.le_of_ble_eq_true rfl) dX6_isThin_9 ⟨Nat.le_of_ble_eq_true rfl, Nat.le_of_ble_eq_true rfl⟩) ?_
  refine lv_istore_n (lv' := [(3, .int r5), (0, .ref ((a_p1 0))), (1, .int v1), (2, .int v2)]) hx hb dX6_isThin_12 rfl hl (by decide) rfl (fun ls hl => ?_)
  refine lv_aload_n hx hb dX6_isThin_13 rfl (lv_at hl 1 rfl) ?_
  refine lv_iload_n hx hb dX6_isThin_14 rfl (lv_at hl 0 rfl) ?_
  refine lv_iload_n hx hb dX6_isThin_15 rfl (lv_at hl 2 rfl) ?_
  refine ro_i (runS (As := [.int v1]) (rest := [.int r5, .ref ((a_p1 0))]) cx hl.1 (ctJ6_bitCount_0f7a4 l g v1 (fJ6_bitCount_0f7a4 v1) rfl) kmJ6_bitCount_0f7a4 ksJ6_bitCount_0f7a4 lm_X6_30 ⟨rfl, rfl⟩ ⟨Nat.le_of_ble_eq_true rfl, Nat.le_of_ble_eq_true rfl⟩ (roS hG (hP.sub [] rfl)) rfl rfl (Nat.le_of_ble_eq_true rfl) dX6_isThin_16 ⟨Nat.le_of_ble_eq_true rfl, Nat.le_of_ble_eq_true rfl⟩) ?_
  refine lv_iload_n hx hb dX6_isThin_19 rfl (lv_at hl 3 rfl) ?_
  obtain ⟨r7, hr8, h⟩ := bnd h
  refine ro_z (runVN (As := [.int r5, .int (fJ6_bitCount_0f7a4 v1), .int v2]) (rest := []) hG cx hl.1 (ctX1_suits l g a_p1 p1_told p1_lines p1_kinds p1_acts p1_cells p1_rooms r5 (fJ6_bitCount_0f7a4 v1) v2 r7 hr8) kmX1_suits kvX1_suits nm_85 ⟨rfl, rfl⟩ ⟨Nat.le_of_ble_eq_true rfl, Nat.le_of_ble_eq_true rfl⟩ (roV (q0 := 0) (ci := 1) hG (hP.sub [0, 1, 4] rfl) hP rfl rfl) rfl rfl (Nat.le_of_ble_eq_true rfl) dX6_isThin_20 ⟨Nat.le_of_ble_eq_true rfl, Nat.le_of_ble_eq_true rfl⟩) (fun hz9 => ?_)
  exact hret _ _ _ dX6_isThin_23 hz9 (Option.some.inj h)
-- X6_thinnerSets
theorem dX6_thinnerSets_0 : decode cX6_thinnerSets 0 = .ok (.iconst 0, 1) := by decide +kernel
theorem dX6_thinnerSets_1 : decode cX6_thinnerSets 1 = .ok (.istore 4, 2) := by decide +kernel
theorem dX6_thinnerSets_3 : decode cX6_thinnerSets 3 = .ok (.iconst 1, 1) := by decide +kernel
theorem dX6_thinnerSets_4 : decode cX6_thinnerSets 4 = .ok (.istore 5, 2) := by decide +kernel
theorem dX6_thinnerSets_6 : decode cX6_thinnerSets 6 = .ok (.iload 5, 2) := by decide +kernel
theorem dX6_thinnerSets_8 : decode cX6_thinnerSets 8 = .ok (.aload_n 1, 1) := by decide +kernel
theorem dX6_thinnerSets_9 : decode cX6_thinnerSets 9 = .ok (.invokevirtual 40, 3) := by decide +kernel
theorem dX6_thinnerSets_12 : decode cX6_thinnerSets 12 = .ok (.if_icmp .gt 31, 3) := by decide +kernel
theorem dX6_thinnerSets_15 : decode cX6_thinnerSets 15 = .ok (.iload 5, 2) := by decide +kernel
theorem dX6_thinnerSets_17 : decode cX6_thinnerSets 17 = .ok (.invokestatic 30, 3) := by decide +kernel
theorem dX6_thinnerSets_20 : decode cX6_thinnerSets 20 = .ok (.iload_n 2, 1) := by decide +kernel
theorem dX6_thinnerSets_21 : decode cX6_thinnerSets 21 = .ok (.if_icmp .ne 16, 3) := by decide +kernel
theorem dX6_thinnerSets_24 : decode cX6_thinnerSets 24 = .ok (.aload_n 1, 1) := by decide +kernel
theorem dX6_thinnerSets_25 : decode cX6_thinnerSets 25 = .ok (.iload 5, 2) := by decide +kernel
theorem dX6_thinnerSets_27 : decode cX6_thinnerSets 27 = .ok (.iload_n 3, 1) := by decide +kernel
theorem dX6_thinnerSets_28 : decode cX6_thinnerSets 28 = .ok (.invokestatic 43, 3) := by decide +kernel
theorem dX6_thinnerSets_31 : decode cX6_thinnerSets 31 = .ok (.ifCond .eq 6, 3) := by decide +kernel
theorem dX6_thinnerSets_34 : decode cX6_thinnerSets 34 = .ok (.iinc 4 1, 3) := by decide +kernel
theorem dX6_thinnerSets_37 : decode cX6_thinnerSets 37 = .ok (.iinc 5 1, 3) := by decide +kernel
theorem dX6_thinnerSets_40 : decode cX6_thinnerSets 40 = .ok (.goto (-34), 3) := by decide +kernel
theorem dX6_thinnerSets_43 : decode cX6_thinnerSets 43 = .ok (.iload 4, 2) := by decide +kernel
theorem dX6_thinnerSets_45 : decode cX6_thinnerSets 45 = .ok (.ireturn, 1) := by decide +kernel
noncomputable def fX6_thinnerSets_37 (k6 : (Nat → Int32) → (Nat → Int32) → (Nat → Int32) → (Nat → Int32) → Int32 → Int32 → Int32 → Int32 → Int32 → Option (Int32)) (p1_cells : Nat → Int32) (p1_rows : Nat → Int32) (p1_sizes : Nat → Int32) (p1_rooms : Nat → Int32) (p1_acts : Int32) (v2 : Int32) (v3 : Int32) (v4 : Int32) (v5 : Int32) : Option (Int32) := k6 p1_cells p1_rows p1_sizes p1_rooms p1_acts v2 v3 v4 (v5 + 1)
noncomputable def fX6_thinnerSets_6  : Nat → (Nat → Int32) → (Nat → Int32) → (Nat → Int32) → (Nat → Int32) → Int32 → Int32 → Int32 → Int32 → Int32 → Option (Int32)
  | 0, _, _, _, _, _, _, _, _, _ => none
  | n + 1, p1_cells, p1_rows, p1_sizes, p1_rooms, p1_acts, v2, v3, v4, v5 => (fX1_allPlies p1_sizes p1_acts).bind fun r1 => (if r1 < v5 then some v4 else (if (fJ6_bitCount_0f7a4 v5) = v2 then (fX6_isThin p1_cells p1_rows p1_sizes p1_rooms p1_acts v5 v3).bind fun r5 => (if r5 = 0 then fX6_thinnerSets_37 (fX6_thinnerSets_6 n) p1_cells p1_rows p1_sizes p1_rooms p1_acts v2 v3 v4 v5 else fX6_thinnerSets_37 (fX6_thinnerSets_6 n) p1_cells p1_rows p1_sizes p1_rooms p1_acts v2 v3 (v4 + 1) v5) else fX6_thinnerSets_37 (fX6_thinnerSets_6 n) p1_cells p1_rows p1_sizes p1_rooms p1_acts v2 v3 v4 v5))
theorem fX6_thinnerSets_6_z  (p1_cells : Nat → Int32) (p1_rows : Nat → Int32) (p1_sizes : Nat → Int32) (p1_rooms : Nat → Int32) (p1_acts : Int32) (v2 : Int32) (v3 : Int32) (v4 : Int32) (v5 : Int32) : fX6_thinnerSets_6  0 p1_cells p1_rows p1_sizes p1_rooms p1_acts v2 v3 v4 v5 = none := rfl
theorem fX6_thinnerSets_6_s  (n : Nat) (p1_cells : Nat → Int32) (p1_rows : Nat → Int32) (p1_sizes : Nat → Int32) (p1_rooms : Nat → Int32) (p1_acts : Int32) (v2 : Int32) (v3 : Int32) (v4 : Int32) (v5 : Int32) : fX6_thinnerSets_6  (n + 1) p1_cells p1_rows p1_sizes p1_rooms p1_acts v2 v3 v4 v5 = (fX1_allPlies p1_sizes p1_acts).bind fun r1 => (if r1 < v5 then some v4 else (if (fJ6_bitCount_0f7a4 v5) = v2 then (fX6_isThin p1_cells p1_rows p1_sizes p1_rooms p1_acts v5 v3).bind fun r5 => (if r5 = 0 then fX6_thinnerSets_37 (fX6_thinnerSets_6 n) p1_cells p1_rows p1_sizes p1_rooms p1_acts v2 v3 v4 v5 else fX6_thinnerSets_37 (fX6_thinnerSets_6 n) p1_cells p1_rows p1_sizes p1_rooms p1_acts v2 v3 (v4 + 1) v5) else fX6_thinnerSets_37 (fX6_thinnerSets_6 n) p1_cells p1_rows p1_sizes p1_rooms p1_acts v2 v3 v4 v5)) := rfl
noncomputable def fX6_thinnerSets  (p1_cells : Nat → Int32) (p1_rows : Nat → Int32) (p1_sizes : Nat → Int32) (p1_rooms : Nat → Int32) (p1_acts : Int32) (v2 : Int32) (v3 : Int32) : Option (Int32) := fX6_thinnerSets_6 FU p1_cells p1_rows p1_sizes p1_rooms p1_acts v2 v3 0 1
set_option maxHeartbeats 4000000 in
set_option maxRecDepth 100000 in
theorem ctX6_thinnerSets (l : Launch) (g : GT) (a_t : Nat → Nat) (a_p1 : Nat → Nat) (p1_told : Int32) (p1_lines : Int32) (p1_kinds : Int32) (p1_acts : Int32) (p1_cells : Nat → Int32) (p1_rows : Nat → Int32) (p1_sizes : Nat → Int32) (p1_rooms : Nat → Int32) (v2 : Int32) (v3 : Int32) (o : Int32) (h : fX6_thinnerSets p1_cells p1_rows p1_sizes p1_rooms p1_acts v2 v3 = some o) : Met l yX6_thinnerSets (Cond.code yX6_thinnerSets cX6_thinnerSets 6 (some .int) :: Tw) ⟨6, 0, 0, 145⟩ (va_Pc [.ref ((a_t 0)), .ref ((a_p1 0)), .int v2, .int v3] (roB g [((a_p1 0), .inr (1, [.ref (a_p1 1), .ref (a_p1 2), .ref (a_p1 3), .ref (a_p1 4), .ref (a_p1 5), .int p1_told, .int p1_lines, .int p1_kinds, .int p1_acts])), ((a_p1 2), .inl (g.2.2.1 0, 144, .inl p1_cells)), ((a_p1 3), .inl (g.2.2.1 0, 31, .inl p1_rows)), ((a_p1 4), .inl (g.2.2.1 0, 31, .inl p1_sizes)), ((a_p1 5), .inl (g.2.2.1 0, 31, .inl p1_rooms))])) (vp_Si (fun x => x = o)) 0 0 (fun _ => False) := by
  refine ro_meti (by decide) (Nat.le_of_ble_eq_true rfl) (lv0 := [(0, .ref ((a_t 0))), (1, .ref ((a_p1 0))), (2, .int v2), (3, .int v3)]) rfl ?_
  intro p e s m args below meth c ls Q cx hret hG hP hl
  have hx := cx.1
  have hb := cx.2.1
  have hG0 := hG
  have w37 : ∀ (k6 : (Nat → Int32) → (Nat → Int32) → (Nat → Int32) → (Nat → Int32) → Int32 → Int32 → Int32 → Int32 → Int32 → Option (Int32)) (hk6 : ∀ (v2 : Int32) (v3 : Int32) (v4 : Int32) (v5 : Int32) (ls : Array Slot), lv_has ls 6 [(1, .ref ((a_p1 0))), (2, .int v2), (3, .int v3), (4, .int v4), (5, .int v5)] → k6 p1_cells p1_rows p1_sizes p1_rooms p1_acts v2 v3 v4 v5 = some o → W p l e ⟨6, 0, 0, 145⟩ s m args below meth c s.heap [] 0 0 Q (F0 m 6 ls [])) (v2 : Int32) (v3 : Int32) (v4 : Int32) (v5 : Int32) (ls : Array Slot), lv_has ls 6 [(1, .ref ((a_p1 0))), (2, .int v2), (3, .int v3), (4, .int v4), (5, .int v5)] → fX6_thinnerSets_37 k6 p1_cells p1_rows p1_sizes p1_rooms p1_acts v2 v3 v4 v5 = some o → W p l e ⟨6, 0, 0, 145⟩ s m args below meth c s.heap [] 0 0 Q (F0 m 37 ls []) := by
    intro k6 hk6 v2 v3 v4 v5 ls hl h
    unfold fX6_thinnerSets_37 at h
    refine lv_iinc (v := v5 + 1) (lv' := [(5, .int (v5 + 1)), (1, .ref ((a_p1 0))), (2, .int v2), (3, .int v3), (4, .int v4)]) hx hb dX6_thinnerSets_37 hl (k := 4) rfl rfl (by decide) rfl (fun ls hl => ?_)
    refine lv_goto (tgt := 6) hx hb dX6_thinnerSets_40 (by decide) ?_
    exact hk6 v2 v3 v4 (v5 + 1) _ (lv_sub hl [1, 2, 3, 4, 0] rfl) h
  have w6 : ∀ (n : Nat) (v2 : Int32) (v3 : Int32) (v4 : Int32) (v5 : Int32) (ls : Array Slot), lv_has ls 6 [(1, .ref ((a_p1 0))), (2, .int v2), (3, .int v3), (4, .int v4), (5, .int v5)] → fX6_thinnerSets_6  n p1_cells p1_rows p1_sizes p1_rooms p1_acts v2 v3 v4 v5 = some o → W p l e ⟨6, 0, 0, 145⟩ s m args below meth c s.heap [] 0 0 Q (F0 m 6 ls []) := by
    intro n
    induction n with
    | zero => intro v2 v3 v4 v5 ls hl h; cases (fX6_thinnerSets_6_z  p1_cells p1_rows p1_sizes p1_rooms p1_acts v2 v3 v4 v5).symm.trans h
    | succ n ih =>
    intro v2 v3 v4 v5 ls hl h
    have h := (fX6_thinnerSets_6_s  n p1_cells p1_rows p1_sizes p1_rooms p1_acts v2 v3 v4 v5).symm.trans h
    refine lv_iload hx hb dX6_thinnerSets_6 (lv_at hl 4 rfl) ?_
    refine lv_aload_n hx hb dX6_thinnerSets_8 rfl (lv_at hl 0 rfl) ?_
    obtain ⟨r1, hr2, h⟩ := bnd h
    refine ro_i (runVN (As := []) (rest := [.int v5]) hG cx hl.1 (ctX1_allPlies l g a_p1 p1_told p1_lines p1_kinds p1_acts p1_sizes r1 hr2) kmX1_allPlies kvX1_allPlies nm_81 ⟨rfl, rfl⟩ ⟨Nat.le_of_ble_eq_true rfl, Nat.le_of_ble_eq_true rfl⟩ (roV (q0 := 0) (ci := 1) hG (hP.sub [0, 3] rfl) hP rfl rfl) rfl rfl (Nat.le_of_ble_eq_true rfl) dX6_thinnerSets_9 ⟨Nat.le_of_ble_eq_true rfl, Nat.le_of_ble_eq_true rfl⟩) ?_
    refine lv_icmp_gt (tgt := 43) hx hb dX6_thinnerSets_12 (by decide) (fun c3 => ?_) (fun c3 => ?_)
    · have h := itp c3 h
      refine lv_iload hx hb dX6_thinnerSets_43 (lv_at hl 3 rfl) ?_
      exact hret _ _ _ dX6_thinnerSets_45 (Option.some.inj h)
    · have h := itn c3 h
      refine lv_iload hx hb dX6_thinnerSets_15 (lv_at hl 4 rfl) ?_
      refine ro_i (runS (As := [.int v5]) (rest := []) cx hl.1 (ctJ6_bitCount_0f7a4 l g v5 (fJ6_bitCount_0f7a4 v5) rfl) kmJ6_bitCount_0f7a4 ksJ6_bitCount_0f7a4 lm_X6_30 ⟨rfl, rfl⟩ ⟨Nat.le_of_ble_eq_true rfl, Nat.le_of_ble_eq_true rfl⟩ (roS hG (hP.sub [] rfl)) rfl rfl (Nat.le_of_ble_eq_true rfl) dX6_thinnerSets_17 ⟨Nat.le_of_ble_eq_true rfl, Nat.le_of_ble_eq_true rfl⟩) ?_
      refine lv_iload_n hx hb dX6_thinnerSets_20 rfl (lv_at hl 1 rfl) ?_
      refine lv_icmp_ne (tgt := 37) hx hb dX6_thinnerSets_21 (by decide) (fun c4 => ?_) (fun c4 => ?_)
      · have h := itn c4 h
        exact w37 _ ih v2 v3 v4 v5 _ (lv_sub hl [0, 1, 2, 3, 4] rfl) h
      · have h := itp c4 h
        refine lv_aload_n hx hb dX6_thinnerSets_24 rfl (lv_at hl 0 rfl) ?_
        refine lv_iload hx hb dX6_thinnerSets_25 (lv_at hl 4 rfl) ?_
        refine lv_iload_n hx hb dX6_thinnerSets_27 rfl (lv_at hl 2 rfl) ?_
        obtain ⟨r5, hr6, h⟩ := bnd h
        refine ro_z (runS (As := [.ref ((a_p1 0)), .int v5, .int v3]) (rest := []) cx hl.1 (ctX6_isThin l g a_p1 p1_told p1_lines p1_kinds p1_acts p1_cells p1_rows p1_sizes p1_rooms v5 v3 r5 hr6) kmX6_isThin ksX6_isThin lm_X6_43 ⟨rfl, rfl⟩ ⟨Nat.le_of_ble_eq_true rfl, Nat.le_of_ble_eq_true rfl⟩ (roS hG (hP.sub [0, 1, 2, 3, 4] rfl)) rfl rfl (Nat.le_of_ble_eq_true rfl) dX6_thinnerSets_28 ⟨Nat.le_of_ble_eq_true rfl, Nat.le_of_ble_eq_true rfl⟩) (fun hz7 => ?_)
        refine lv_if_eq (tgt := 37) hx hb dX6_thinnerSets_31 (by decide) (fun c8 => ?_) (fun c8 => ?_)
        · have h := itp c8 h
          exact w37 _ ih v2 v3 v4 v5 _ (lv_sub hl [0, 1, 2, 3, 4] rfl) h
        · have h := itn c8 h
          refine lv_iinc (v := v4 + 1) (lv' := [(4, .int (v4 + 1)), (1, .ref ((a_p1 0))), (2, .int v2), (3, .int v3), (5, .int v5)]) hx hb dX6_thinnerSets_34 hl (k := 3) rfl rfl (by decide) rfl (fun ls hl => ?_)
          exact w37 _ ih v2 v3 (v4 + 1) v5 _ (lv_sub hl [1, 2, 3, 0, 4] rfl) h
  unfold fX6_thinnerSets at h
  refine lv_iconst (v := 0) hx hb dX6_thinnerSets_0 (by decide) ?_
  refine lv_istore (lv' := [(4, .int (0)), (0, .ref ((a_t 0))), (1, .ref ((a_p1 0))), (2, .int v2), (3, .int v3)]) hx hb dX6_thinnerSets_1 hl (by decide) rfl (fun ls hl => ?_)
  refine lv_iconst (v := 1) hx hb dX6_thinnerSets_3 (by decide) ?_
  refine lv_istore (lv' := [(5, .int (1)), (4, .int (0)), (0, .ref ((a_t 0))), (1, .ref ((a_p1 0))), (2, .int v2), (3, .int v3)]) hx hb dX6_thinnerSets_4 hl (by decide) rfl (fun ls hl => ?_)
  exact w6 FU v2 v3 0 1 _ (lv_sub hl [3, 4, 5, 1, 0] rfl) h
-- X6_thinnerSet
theorem dX6_thinnerSet_0 : decode cX6_thinnerSet 0 = .ok (.iconst 0, 1) := by decide +kernel
theorem dX6_thinnerSet_1 : decode cX6_thinnerSet 1 = .ok (.istore 5, 2) := by decide +kernel
theorem dX6_thinnerSet_3 : decode cX6_thinnerSet 3 = .ok (.iconst 1, 1) := by decide +kernel
theorem dX6_thinnerSet_4 : decode cX6_thinnerSet 4 = .ok (.istore 6, 2) := by decide +kernel
theorem dX6_thinnerSet_6 : decode cX6_thinnerSet 6 = .ok (.iload 6, 2) := by decide +kernel
theorem dX6_thinnerSet_8 : decode cX6_thinnerSet 8 = .ok (.aload_n 1, 1) := by decide +kernel
theorem dX6_thinnerSet_9 : decode cX6_thinnerSet 9 = .ok (.invokevirtual 40, 3) := by decide +kernel
theorem dX6_thinnerSet_12 : decode cX6_thinnerSet 12 = .ok (.if_icmp .gt 41, 3) := by decide +kernel
theorem dX6_thinnerSet_15 : decode cX6_thinnerSet 15 = .ok (.iload 6, 2) := by decide +kernel
theorem dX6_thinnerSet_17 : decode cX6_thinnerSet 17 = .ok (.invokestatic 30, 3) := by decide +kernel
theorem dX6_thinnerSet_20 : decode cX6_thinnerSet 20 = .ok (.iload_n 2, 1) := by decide +kernel
theorem dX6_thinnerSet_21 : decode cX6_thinnerSet 21 = .ok (.if_icmp .ne 26, 3) := by decide +kernel
theorem dX6_thinnerSet_24 : decode cX6_thinnerSet 24 = .ok (.aload_n 1, 1) := by decide +kernel
theorem dX6_thinnerSet_25 : decode cX6_thinnerSet 25 = .ok (.iload 6, 2) := by decide +kernel
theorem dX6_thinnerSet_27 : decode cX6_thinnerSet 27 = .ok (.iload_n 3, 1) := by decide +kernel
theorem dX6_thinnerSet_28 : decode cX6_thinnerSet 28 = .ok (.invokestatic 43, 3) := by decide +kernel
theorem dX6_thinnerSet_31 : decode cX6_thinnerSet 31 = .ok (.ifCond .eq 16, 3) := by decide +kernel
theorem dX6_thinnerSet_34 : decode cX6_thinnerSet 34 = .ok (.iload 5, 2) := by decide +kernel
theorem dX6_thinnerSet_36 : decode cX6_thinnerSet 36 = .ok (.iload 4, 2) := by decide +kernel
theorem dX6_thinnerSet_38 : decode cX6_thinnerSet 38 = .ok (.if_icmp .ne 6, 3) := by decide +kernel
theorem dX6_thinnerSet_41 : decode cX6_thinnerSet 41 = .ok (.iload 6, 2) := by decide +kernel
theorem dX6_thinnerSet_43 : decode cX6_thinnerSet 43 = .ok (.ireturn, 1) := by decide +kernel
theorem dX6_thinnerSet_44 : decode cX6_thinnerSet 44 = .ok (.iinc 5 1, 3) := by decide +kernel
theorem dX6_thinnerSet_47 : decode cX6_thinnerSet 47 = .ok (.iinc 6 1, 3) := by decide +kernel
theorem dX6_thinnerSet_50 : decode cX6_thinnerSet 50 = .ok (.goto (-44), 3) := by decide +kernel
theorem dX6_thinnerSet_53 : decode cX6_thinnerSet 53 = .ok (.iconst (-1), 1) := by decide +kernel
theorem dX6_thinnerSet_54 : decode cX6_thinnerSet 54 = .ok (.ireturn, 1) := by decide +kernel
noncomputable def fX6_thinnerSet_47 (k6 : (Nat → Int32) → (Nat → Int32) → (Nat → Int32) → (Nat → Int32) → Int32 → Int32 → Int32 → Int32 → Int32 → Int32 → Option (Int32)) (p1_cells : Nat → Int32) (p1_rows : Nat → Int32) (p1_sizes : Nat → Int32) (p1_rooms : Nat → Int32) (p1_acts : Int32) (v2 : Int32) (v3 : Int32) (v4 : Int32) (v5 : Int32) (v6 : Int32) : Option (Int32) := k6 p1_cells p1_rows p1_sizes p1_rooms p1_acts v2 v3 v4 v5 (v6 + 1)
noncomputable def fX6_thinnerSet_6  : Nat → (Nat → Int32) → (Nat → Int32) → (Nat → Int32) → (Nat → Int32) → Int32 → Int32 → Int32 → Int32 → Int32 → Int32 → Option (Int32)
  | 0, _, _, _, _, _, _, _, _, _, _ => none
  | n + 1, p1_cells, p1_rows, p1_sizes, p1_rooms, p1_acts, v2, v3, v4, v5, v6 => (fX1_allPlies p1_sizes p1_acts).bind fun r1 => (if r1 < v6 then some (-1) else (if (fJ6_bitCount_0f7a4 v6) = v2 then (fX6_isThin p1_cells p1_rows p1_sizes p1_rooms p1_acts v6 v3).bind fun r5 => (if r5 = 0 then fX6_thinnerSet_47 (fX6_thinnerSet_6 n) p1_cells p1_rows p1_sizes p1_rooms p1_acts v2 v3 v4 v5 v6 else (if v5 = v4 then some v6 else fX6_thinnerSet_47 (fX6_thinnerSet_6 n) p1_cells p1_rows p1_sizes p1_rooms p1_acts v2 v3 v4 (v5 + 1) v6)) else fX6_thinnerSet_47 (fX6_thinnerSet_6 n) p1_cells p1_rows p1_sizes p1_rooms p1_acts v2 v3 v4 v5 v6))
theorem fX6_thinnerSet_6_z  (p1_cells : Nat → Int32) (p1_rows : Nat → Int32) (p1_sizes : Nat → Int32) (p1_rooms : Nat → Int32) (p1_acts : Int32) (v2 : Int32) (v3 : Int32) (v4 : Int32) (v5 : Int32) (v6 : Int32) : fX6_thinnerSet_6  0 p1_cells p1_rows p1_sizes p1_rooms p1_acts v2 v3 v4 v5 v6 = none := rfl
theorem fX6_thinnerSet_6_s  (n : Nat) (p1_cells : Nat → Int32) (p1_rows : Nat → Int32) (p1_sizes : Nat → Int32) (p1_rooms : Nat → Int32) (p1_acts : Int32) (v2 : Int32) (v3 : Int32) (v4 : Int32) (v5 : Int32) (v6 : Int32) : fX6_thinnerSet_6  (n + 1) p1_cells p1_rows p1_sizes p1_rooms p1_acts v2 v3 v4 v5 v6 = (fX1_allPlies p1_sizes p1_acts).bind fun r1 => (if r1 < v6 then some (-1) else (if (fJ6_bitCount_0f7a4 v6) = v2 then (fX6_isThin p1_cells p1_rows p1_sizes p1_rooms p1_acts v6 v3).bind fun r5 => (if r5 = 0 then fX6_thinnerSet_47 (fX6_thinnerSet_6 n) p1_cells p1_rows p1_sizes p1_rooms p1_acts v2 v3 v4 v5 v6 else (if v5 = v4 then some v6 else fX6_thinnerSet_47 (fX6_thinnerSet_6 n) p1_cells p1_rows p1_sizes p1_rooms p1_acts v2 v3 v4 (v5 + 1) v6)) else fX6_thinnerSet_47 (fX6_thinnerSet_6 n) p1_cells p1_rows p1_sizes p1_rooms p1_acts v2 v3 v4 v5 v6)) := rfl
noncomputable def fX6_thinnerSet  (p1_cells : Nat → Int32) (p1_rows : Nat → Int32) (p1_sizes : Nat → Int32) (p1_rooms : Nat → Int32) (p1_acts : Int32) (v2 : Int32) (v3 : Int32) (v4 : Int32) : Option (Int32) := fX6_thinnerSet_6 FU p1_cells p1_rows p1_sizes p1_rooms p1_acts v2 v3 v4 0 1
set_option maxHeartbeats 4000000 in
set_option maxRecDepth 100000 in
theorem ctX6_thinnerSet (l : Launch) (g : GT) (a_t : Nat → Nat) (a_p1 : Nat → Nat) (p1_told : Int32) (p1_lines : Int32) (p1_kinds : Int32) (p1_acts : Int32) (p1_cells : Nat → Int32) (p1_rows : Nat → Int32) (p1_sizes : Nat → Int32) (p1_rooms : Nat → Int32) (v2 : Int32) (v3 : Int32) (v4 : Int32) (o : Int32) (h : fX6_thinnerSet p1_cells p1_rows p1_sizes p1_rooms p1_acts v2 v3 v4 = some o) : Met l yX6_thinnerSet (Cond.code yX6_thinnerSet cX6_thinnerSet 7 (some .int) :: Tw) ⟨6, 0, 0, 145⟩ (va_Pc [.ref ((a_t 0)), .ref ((a_p1 0)), .int v2, .int v3, .int v4] (roB g [((a_p1 0), .inr (1, [.ref (a_p1 1), .ref (a_p1 2), .ref (a_p1 3), .ref (a_p1 4), .ref (a_p1 5), .int p1_told, .int p1_lines, .int p1_kinds, .int p1_acts])), ((a_p1 2), .inl (g.2.2.1 0, 144, .inl p1_cells)), ((a_p1 3), .inl (g.2.2.1 0, 31, .inl p1_rows)), ((a_p1 4), .inl (g.2.2.1 0, 31, .inl p1_sizes)), ((a_p1 5), .inl (g.2.2.1 0, 31, .inl p1_rooms))])) (vp_Si (fun x => x = o)) 0 0 (fun _ => False) := by
  refine ro_meti (by decide) (Nat.le_of_ble_eq_true rfl) (lv0 := [(0, .ref ((a_t 0))), (1, .ref ((a_p1 0))), (2, .int v2), (3, .int v3), (4, .int v4)]) rfl ?_
  intro p e s m args below meth c ls Q cx hret hG hP hl
  have hx := cx.1
  have hb := cx.2.1
  have hG0 := hG
  have w47 : ∀ (k6 : (Nat → Int32) → (Nat → Int32) → (Nat → Int32) → (Nat → Int32) → Int32 → Int32 → Int32 → Int32 → Int32 → Int32 → Option (Int32)) (hk6 : ∀ (v2 : Int32) (v3 : Int32) (v4 : Int32) (v5 : Int32) (v6 : Int32) (ls : Array Slot), lv_has ls 7 [(1, .ref ((a_p1 0))), (2, .int v2), (3, .int v3), (4, .int v4), (5, .int v5), (6, .int v6)] → k6 p1_cells p1_rows p1_sizes p1_rooms p1_acts v2 v3 v4 v5 v6 = some o → W p l e ⟨6, 0, 0, 145⟩ s m args below meth c s.heap [] 0 0 Q (F0 m 6 ls [])) (v2 : Int32) (v3 : Int32) (v4 : Int32) (v5 : Int32) (v6 : Int32) (ls : Array Slot), lv_has ls 7 [(1, .ref ((a_p1 0))), (2, .int v2), (3, .int v3), (4, .int v4), (5, .int v5), (6, .int v6)] → fX6_thinnerSet_47 k6 p1_cells p1_rows p1_sizes p1_rooms p1_acts v2 v3 v4 v5 v6 = some o → W p l e ⟨6, 0, 0, 145⟩ s m args below meth c s.heap [] 0 0 Q (F0 m 47 ls []) := by
    intro k6 hk6 v2 v3 v4 v5 v6 ls hl h
    unfold fX6_thinnerSet_47 at h
    refine lv_iinc (v := v6 + 1) (lv' := [(6, .int (v6 + 1)), (1, .ref ((a_p1 0))), (2, .int v2), (3, .int v3), (4, .int v4), (5, .int v5)]) hx hb dX6_thinnerSet_47 hl (k := 5) rfl rfl (by decide) rfl (fun ls hl => ?_)
    refine lv_goto (tgt := 6) hx hb dX6_thinnerSet_50 (by decide) ?_
    exact hk6 v2 v3 v4 v5 (v6 + 1) _ (lv_sub hl [1, 2, 3, 4, 5, 0] rfl) h
  have w6 : ∀ (n : Nat) (v2 : Int32) (v3 : Int32) (v4 : Int32) (v5 : Int32) (v6 : Int32) (ls : Array Slot), lv_has ls 7 [(1, .ref ((a_p1 0))), (2, .int v2), (3, .int v3), (4, .int v4), (5, .int v5), (6, .int v6)] → fX6_thinnerSet_6  n p1_cells p1_rows p1_sizes p1_rooms p1_acts v2 v3 v4 v5 v6 = some o → W p l e ⟨6, 0, 0, 145⟩ s m args below meth c s.heap [] 0 0 Q (F0 m 6 ls []) := by
    intro n
    induction n with
    | zero => intro v2 v3 v4 v5 v6 ls hl h; cases (fX6_thinnerSet_6_z  p1_cells p1_rows p1_sizes p1_rooms p1_acts v2 v3 v4 v5 v6).symm.trans h
    | succ n ih =>
    intro v2 v3 v4 v5 v6 ls hl h
    have h := (fX6_thinnerSet_6_s  n p1_cells p1_rows p1_sizes p1_rooms p1_acts v2 v3 v4 v5 v6).symm.trans h
    refine lv_iload hx hb dX6_thinnerSet_6 (lv_at hl 5 rfl) ?_
    refine lv_aload_n hx hb dX6_thinnerSet_8 rfl (lv_at hl 0 rfl) ?_
    obtain ⟨r1, hr2, h⟩ := bnd h
    refine ro_i (runVN (As := []) (rest := [.int v6]) hG cx hl.1 (ctX1_allPlies l g a_p1 p1_told p1_lines p1_kinds p1_acts p1_sizes r1 hr2) kmX1_allPlies kvX1_allPlies nm_81 ⟨rfl, rfl⟩ ⟨Nat.le_of_ble_eq_true rfl, Nat.le_of_ble_eq_true rfl⟩ (roV (q0 := 0) (ci := 1) hG (hP.sub [0, 3] rfl) hP rfl rfl) rfl rfl (Nat.le_of_ble_eq_true rfl) dX6_thinnerSet_9 ⟨Nat.le_of_ble_eq_true rfl, Nat.le_of_ble_eq_true rfl⟩) ?_
    refine lv_icmp_gt (tgt := 53) hx hb dX6_thinnerSet_12 (by decide) (fun c3 => ?_) (fun c3 => ?_)
    · have h := itp c3 h
      refine lv_iconst (v := -1) hx hb dX6_thinnerSet_53 (by decide) ?_
      exact hret _ _ _ dX6_thinnerSet_54 (Option.some.inj h)
    · have h := itn c3 h
      refine lv_iload hx hb dX6_thinnerSet_15 (lv_at hl 5 rfl) ?_
      refine ro_i (runS (As := [.int v6]) (rest := []) cx hl.1 (ctJ6_bitCount_0f7a4 l g v6 (fJ6_bitCount_0f7a4 v6) rfl) kmJ6_bitCount_0f7a4 ksJ6_bitCount_0f7a4 lm_X6_30 ⟨rfl, rfl⟩ ⟨Nat.le_of_ble_eq_true rfl, Nat.le_of_ble_eq_true rfl⟩ (roS hG (hP.sub [] rfl)) rfl rfl (Nat.le_of_ble_eq_true rfl) dX6_thinnerSet_17 ⟨Nat.le_of_ble_eq_true rfl, Nat.le_of_ble_eq_true rfl⟩) ?_
      refine lv_iload_n hx hb dX6_thinnerSet_20 rfl (lv_at hl 1 rfl) ?_
      refine lv_icmp_ne (tgt := 47) hx hb dX6_thinnerSet_21 (by decide) (fun c4 => ?_) (fun c4 => ?_)
      · have h := itn c4 h
        exact w47 _ ih v2 v3 v4 v5 v6 _ (lv_sub hl [0, 1, 2, 3, 4, 5] rfl) h
      · have h := itp c4 h
        refine lv_aload_n hx hb dX6_thinnerSet_24 rfl (lv_at hl 0 rfl) ?_
        refine lv_iload hx hb dX6_thinnerSet_25 (lv_at hl 5 rfl) ?_
        refine lv_iload_n hx hb dX6_thinnerSet_27 rfl (lv_at hl 2 rfl) ?_
        obtain ⟨r5, hr6, h⟩ := bnd h
        refine ro_z (runS (As := [.ref ((a_p1 0)), .int v6, .int v3]) (rest := []) cx hl.1 (ctX6_isThin l g a_p1 p1_told p1_lines p1_kinds p1_acts p1_cells p1_rows p1_sizes p1_rooms v6 v3 r5 hr6) kmX6_isThin ksX6_isThin lm_X6_43 ⟨rfl, rfl⟩ ⟨Nat.le_of_ble_eq_true rfl, Nat.le_of_ble_eq_true rfl⟩ (roS hG (hP.sub [0, 1, 2, 3, 4] rfl)) rfl rfl (Nat.le_of_ble_eq_true rfl) dX6_thinnerSet_28 ⟨Nat.le_of_ble_eq_true rfl, Nat.le_of_ble_eq_true rfl⟩) (fun hz7 => ?_)
        refine lv_if_eq (tgt := 47) hx hb dX6_thinnerSet_31 (by decide) (fun c8 => ?_) (fun c8 => ?_)
        · have h := itp c8 h
          exact w47 _ ih v2 v3 v4 v5 v6 _ (lv_sub hl [0, 1, 2, 3, 4, 5] rfl) h
        · have h := itn c8 h
          refine lv_iload hx hb dX6_thinnerSet_34 (lv_at hl 4 rfl) ?_
          refine lv_iload hx hb dX6_thinnerSet_36 (lv_at hl 3 rfl) ?_
          refine lv_icmp_ne (tgt := 44) hx hb dX6_thinnerSet_38 (by decide) (fun c9 => ?_) (fun c9 => ?_)
          · have h := itn c9 h
            refine lv_iinc (v := v5 + 1) (lv' := [(5, .int (v5 + 1)), (1, .ref ((a_p1 0))), (2, .int v2), (3, .int v3), (4, .int v4), (6, .int v6)]) hx hb dX6_thinnerSet_44 hl (k := 4) rfl rfl (by decide) rfl (fun ls hl => ?_)
            exact w47 _ ih v2 v3 v4 (v5 + 1) v6 _ (lv_sub hl [1, 2, 3, 4, 0, 5] rfl) h
          · have h := itp c9 h
            refine lv_iload hx hb dX6_thinnerSet_41 (lv_at hl 5 rfl) ?_
            exact hret _ _ _ dX6_thinnerSet_43 (Option.some.inj h)
  unfold fX6_thinnerSet at h
  refine lv_iconst (v := 0) hx hb dX6_thinnerSet_0 (by decide) ?_
  refine lv_istore (lv' := [(5, .int (0)), (0, .ref ((a_t 0))), (1, .ref ((a_p1 0))), (2, .int v2), (3, .int v3), (4, .int v4)]) hx hb dX6_thinnerSet_1 hl (by decide) rfl (fun ls hl => ?_)
  refine lv_iconst (v := 1) hx hb dX6_thinnerSet_3 (by decide) ?_
  refine lv_istore (lv' := [(6, .int (1)), (5, .int (0)), (0, .ref ((a_t 0))), (1, .ref ((a_p1 0))), (2, .int v2), (3, .int v3), (4, .int v4)]) hx hb dX6_thinnerSet_4 hl (by decide) rfl (fun ls hl => ?_)
  exact w6 FU v2 v3 v4 0 1 _ (lv_sub hl [3, 4, 5, 6, 1, 0] rfl) h
-- X6_steps
theorem dX6_steps_0 : decode cX6_steps 0 = .ok (.iload_n 1, 1) := by decide +kernel
theorem dX6_steps_1 : decode cX6_steps 1 = .ok (.ifCond .lt 12, 3) := by decide +kernel
theorem dX6_steps_4 : decode cX6_steps 4 = .ok (.iload_n 1, 1) := by decide +kernel
theorem dX6_steps_5 : decode cX6_steps 5 = .ok (.aload_n 0, 1) := by decide +kernel
theorem dX6_steps_6 : decode cX6_steps 6 = .ok (.getfield 9, 3) := by decide +kernel
theorem dX6_steps_9 : decode cX6_steps 9 = .ok (.arraylength, 1) := by decide +kernel
theorem dX6_steps_10 : decode cX6_steps 10 = .ok (.if_icmp .lt 7, 3) := by decide +kernel
theorem dX6_steps_13 : decode cX6_steps 13 = .ok (.iconst (-1), 1) := by decide +kernel
theorem dX6_steps_14 : decode cX6_steps 14 = .ok (.goto 9, 3) := by decide +kernel
theorem dX6_steps_17 : decode cX6_steps 17 = .ok (.aload_n 0, 1) := by decide +kernel
theorem dX6_steps_18 : decode cX6_steps 18 = .ok (.getfield 9, 3) := by decide +kernel
theorem dX6_steps_21 : decode cX6_steps 21 = .ok (.iload_n 1, 1) := by decide +kernel
theorem dX6_steps_22 : decode cX6_steps 22 = .ok (.iaload, 1) := by decide +kernel
theorem dX6_steps_23 : decode cX6_steps 23 = .ok (.ireturn, 1) := by decide +kernel
noncomputable def fX6_steps  (t_depths : Nat → Int32) (v1 : Int32) : Option (Int32) := (if v1 < 0 then some (-1) else (if v1 < 256 then chk 256 v1 (some (t_depths v1.toNatClampNeg)) else some (-1)))
set_option maxHeartbeats 4000000 in
set_option maxRecDepth 100000 in
theorem ctX6_steps (l : Launch) (g : GT) (a_t : Nat → Nat) (t_all : Int32) (t_stride : Int32) (t_depths : Nat → Int32) (v1 : Int32) (o : Int32) (h : fX6_steps t_depths v1 = some o) : Met l yX6_steps (Cond.code yX6_steps cX6_steps 2 (some .int) :: Tw) ⟨0, 0, 0, 0⟩ (va_Pc [.ref ((a_t 0)), .int v1] (roB g [((a_t 0), .inr (5, [.ref (a_t 1), .int t_all, .int t_stride])), ((a_t 1), .inl (g.2.2.1 0, 256, .inl t_depths))])) (vp_Si (fun x => x = o)) 0 0 (fun _ => False) := by
  refine ro_meti (by decide) (Nat.le_of_ble_eq_true rfl) (lv0 := [(0, .ref ((a_t 0))), (1, .int v1)]) rfl ?_
  intro p e s m args below meth c ls Q cx hret hG hP hl
  have hx := cx.1
  have hb := cx.2.1
  have hG0 := hG
  unfold fX6_steps at h
  refine lv_iload_n hx hb dX6_steps_0 rfl (lv_at hl 1 rfl) ?_
  refine lv_if_lt (tgt := 13) hx hb dX6_steps_1 (by decide) (fun c1 => ?_) (fun c1 => ?_)
  · have h := itp c1 h
    refine lv_iconst (v := -1) hx hb dX6_steps_13 (by decide) ?_
    refine lv_goto (tgt := 23) hx hb dX6_steps_14 (by decide) ?_
    exact hret _ _ _ dX6_steps_23 (Option.some.inj h)
  · have h := itn c1 h
    refine lv_iload_n hx hb dX6_steps_4 rfl (lv_at hl 1 rfl) ?_
    refine lv_aload_n hx hb dX6_steps_5 rfl (lv_at hl 0 rfl) ?_
    refine xa_get (C := RX6) (T := TX6) (N := 3) cx hG hP 0 rfl rfl uX6 0 (by decide) lf_X6_9 rfl dX6_steps_6 ?_
    refine xa_len cx hG hP 1 rfl 0 rfl (v := 256) rfl dX6_steps_9 ?_
    refine lv_icmp_lt (tgt := 17) hx hb dX6_steps_10 (by decide) (fun c2 => ?_) (fun c2 => ?_)
    · have h := itp c2 h
      refine lv_aload_n hx hb dX6_steps_17 rfl (lv_at hl 0 rfl) ?_
      refine xa_get (C := RX6) (T := TX6) (N := 3) cx hG hP 0 rfl rfl uX6 0 (by decide) lf_X6_9 rfl dX6_steps_18 ?_
      refine lv_iload_n hx hb dX6_steps_21 rfl (lv_at hl 1 rfl) ?_
      obtain ⟨hi3, h⟩ := chk_out h
      refine xa_iald cx hG hP 1 rfl hi3 rfl dX6_steps_22 ?_
      exact hret _ _ _ dX6_steps_23 (Option.some.inj h)
    · have h := itn c2 h
      refine lv_iconst (v := -1) hx hb dX6_steps_13 (by decide) ?_
      refine lv_goto (tgt := 23) hx hb dX6_steps_14 (by decide) ?_
      exact hret _ _ _ dX6_steps_23 (Option.some.inj h)
-- X6_leads
theorem dX6_leads_0 : decode cX6_leads 0 = .ok (.iload_n 1, 1) := by decide +kernel
theorem dX6_leads_1 : decode cX6_leads 1 = .ok (.iload_n 2, 1) := by decide +kernel
theorem dX6_leads_2 : decode cX6_leads 2 = .ok (.iand, 1) := by decide +kernel
theorem dX6_leads_3 : decode cX6_leads 3 = .ok (.iload_n 2, 1) := by decide +kernel
theorem dX6_leads_4 : decode cX6_leads 4 = .ok (.if_icmp .ne 32, 3) := by decide +kernel
theorem dX6_leads_7 : decode cX6_leads 7 = .ok (.aload_n 0, 1) := by decide +kernel
theorem dX6_leads_8 : decode cX6_leads 8 = .ok (.iload_n 1, 1) := by decide +kernel
theorem dX6_leads_9 : decode cX6_leads 9 = .ok (.invokevirtual 73, 3) := by decide +kernel
theorem dX6_leads_12 : decode cX6_leads 12 = .ok (.iconst (-1), 1) := by decide +kernel
theorem dX6_leads_13 : decode cX6_leads 13 = .ok (.if_icmp .eq 23, 3) := by decide +kernel
theorem dX6_leads_16 : decode cX6_leads 16 = .ok (.iload_n 1, 1) := by decide +kernel
theorem dX6_leads_17 : decode cX6_leads 17 = .ok (.invokestatic 30, 3) := by decide +kernel
theorem dX6_leads_20 : decode cX6_leads 20 = .ok (.iload_n 2, 1) := by decide +kernel
theorem dX6_leads_21 : decode cX6_leads 21 = .ok (.invokestatic 30, 3) := by decide +kernel
theorem dX6_leads_24 : decode cX6_leads 24 = .ok (.isub, 1) := by decide +kernel
theorem dX6_leads_25 : decode cX6_leads 25 = .ok (.aload_n 0, 1) := by decide +kernel
theorem dX6_leads_26 : decode cX6_leads 26 = .ok (.getfield 47, 3) := by decide +kernel
theorem dX6_leads_29 : decode cX6_leads 29 = .ok (.if_icmp .gt 7, 3) := by decide +kernel
theorem dX6_leads_32 : decode cX6_leads 32 = .ok (.iconst 1, 1) := by decide +kernel
theorem dX6_leads_33 : decode cX6_leads 33 = .ok (.goto 4, 3) := by decide +kernel
theorem dX6_leads_36 : decode cX6_leads 36 = .ok (.iconst 0, 1) := by decide +kernel
theorem dX6_leads_37 : decode cX6_leads 37 = .ok (.ireturn, 1) := by decide +kernel
noncomputable def fX6_leads  (t_depths : Nat → Int32) (t_stride : Int32) (v1 : Int32) (v2 : Int32) : Option (Int32) := (if (v1 &&& v2) = v2 then (fX6_steps t_depths v1).bind fun r2 => (if r2 = (-1) then some (0) else (if t_stride < ((fJ6_bitCount_0f7a4 v1) - (fJ6_bitCount_0f7a4 v2)) then some (0) else some (1))) else some (0))
set_option maxHeartbeats 4000000 in
set_option maxRecDepth 100000 in
theorem ctX6_leads (l : Launch) (g : GT) (a_t : Nat → Nat) (t_all : Int32) (t_stride : Int32) (t_depths : Nat → Int32) (v1 : Int32) (v2 : Int32) (o : Int32) (h : fX6_leads t_depths t_stride v1 v2 = some o) : Met l yX6_leads (Cond.code yX6_leads cX6_leads 3 (some .boolean) :: Tw) ⟨1, 0, 0, 21⟩ (va_Pc [.ref ((a_t 0)), .int v1, .int v2] (roB g [((a_t 0), .inr (5, [.ref (a_t 1), .int t_all, .int t_stride])), ((a_t 1), .inl (g.2.2.1 0, 256, .inl t_depths))])) (vp_Si (fun x => x = o ∧ (x = 0 ∨ x = 1))) 0 0 (fun _ => False) := by
  refine ro_metz (by decide) (Nat.le_of_ble_eq_true rfl) (lv0 := [(0, .ref ((a_t 0))), (1, .int v1), (2, .int v2)]) rfl ?_
  intro p e s m args below meth c ls Q cx hret hG hP hl
  have hx := cx.1
  have hb := cx.2.1
  have hG0 := hG
  unfold fX6_leads at h
  refine lv_iload_n hx hb dX6_leads_0 rfl (lv_at hl 1 rfl) ?_
  refine lv_iload_n hx hb dX6_leads_1 rfl (lv_at hl 2 rfl) ?_
  refine lv_iand hx hb dX6_leads_2 ?_
  refine lv_iload_n hx hb dX6_leads_3 rfl (lv_at hl 2 rfl) ?_
  refine lv_icmp_ne (tgt := 36) hx hb dX6_leads_4 (by decide) (fun c1 => ?_) (fun c1 => ?_)
  · have h := itn c1 h
    refine lv_iconst (v := 0) hx hb dX6_leads_36 (by decide) ?_
    exact hret _ _ _ dX6_leads_37 (by decide) (Option.some.inj h)
  · have h := itp c1 h
    refine lv_aload_n hx hb dX6_leads_7 rfl (lv_at hl 0 rfl) ?_
    refine lv_iload_n hx hb dX6_leads_8 rfl (lv_at hl 1 rfl) ?_
    obtain ⟨r2, hr3, h⟩ := bnd h
    refine ro_i (runV (As := [.int v1]) (rest := []) cx hl.1 (ctX6_steps l g a_t t_all t_stride t_depths v1 r2 hr3) kmX6_steps kvX6_steps lm_X6_73 ⟨rfl, rfl⟩ ⟨Nat.le_of_ble_eq_true rfl, Nat.le_of_ble_eq_true rfl⟩ (roV (q0 := 0) (ci := 5) hG (hP.sub [0, 1] rfl) hP rfl rfl) rfl rfl (Nat.le_of_ble_eq_true rfl) dX6_leads_9 ⟨Nat.le_of_ble_eq_true rfl, Nat.le_of_ble_eq_true rfl⟩) ?_
    refine lv_iconst (v := -1) hx hb dX6_leads_12 (by decide) ?_
    refine lv_icmp_eq (tgt := 36) hx hb dX6_leads_13 (by decide) (fun c4 => ?_) (fun c4 => ?_)
    · have h := itp c4 h
      refine lv_iconst (v := 0) hx hb dX6_leads_36 (by decide) ?_
      exact hret _ _ _ dX6_leads_37 (by decide) (Option.some.inj h)
    · have h := itn c4 h
      refine lv_iload_n hx hb dX6_leads_16 rfl (lv_at hl 1 rfl) ?_
      refine ro_i (runS (As := [.int v1]) (rest := []) cx hl.1 (ctJ6_bitCount_0f7a4 l g v1 (fJ6_bitCount_0f7a4 v1) rfl) kmJ6_bitCount_0f7a4 ksJ6_bitCount_0f7a4 lm_X6_30 ⟨rfl, rfl⟩ ⟨Nat.le_of_ble_eq_true rfl, Nat.le_of_ble_eq_true rfl⟩ (roS hG (hP.sub [] rfl)) rfl rfl (Nat.le_of_ble_eq_true rfl) dX6_leads_17 ⟨Nat.le_of_ble_eq_true rfl, Nat.le_of_ble_eq_true rfl⟩) ?_
      refine lv_iload_n hx hb dX6_leads_20 rfl (lv_at hl 2 rfl) ?_
      refine ro_i (runS (As := [.int v2]) (rest := [.int (fJ6_bitCount_0f7a4 v1)]) cx hl.1 (ctJ6_bitCount_0f7a4 l g v2 (fJ6_bitCount_0f7a4 v2) rfl) kmJ6_bitCount_0f7a4 ksJ6_bitCount_0f7a4 lm_X6_30 ⟨rfl, rfl⟩ ⟨Nat.le_of_ble_eq_true rfl, Nat.le_of_ble_eq_true rfl⟩ (roS hG (hP.sub [] rfl)) rfl rfl (Nat.le_of_ble_eq_true rfl) dX6_leads_21 ⟨Nat.le_of_ble_eq_true rfl, Nat.le_of_ble_eq_true rfl⟩) ?_
      refine lv_isub hx hb dX6_leads_24 ?_
      refine lv_aload_n hx hb dX6_leads_25 rfl (lv_at hl 0 rfl) ?_
      refine xa_get (C := RX6) (T := TX6) (N := 3) cx hG hP 0 rfl rfl uX6 2 (by decide) lf_X6_47 rfl dX6_leads_26 ?_
      refine lv_icmp_gt (tgt := 36) hx hb dX6_leads_29 (by decide) (fun c5 => ?_) (fun c5 => ?_)
      · have h := itp c5 h
        refine lv_iconst (v := 0) hx hb dX6_leads_36 (by decide) ?_
        exact hret _ _ _ dX6_leads_37 (by decide) (Option.some.inj h)
      · have h := itn c5 h
        refine lv_iconst (v := 1) hx hb dX6_leads_32 (by decide) ?_
        refine lv_goto (tgt := 37) hx hb dX6_leads_33 (by decide) ?_
        exact hret _ _ _ dX6_leads_37 (by decide) (Option.some.inj h)
-- X6_leastDepthAbove
theorem dX6_leastDepthAbove_0 : decode cX6_leastDepthAbove 0 = .ok (.iconst (-1), 1) := by decide +kernel
theorem dX6_leastDepthAbove_1 : decode cX6_leastDepthAbove 1 = .ok (.istore_n 2, 1) := by decide +kernel
theorem dX6_leastDepthAbove_2 : decode cX6_leastDepthAbove 2 = .ok (.iload_n 1, 1) := by decide +kernel
theorem dX6_leastDepthAbove_3 : decode cX6_leastDepthAbove 3 = .ok (.iconst 1, 1) := by decide +kernel
theorem dX6_leastDepthAbove_4 : decode cX6_leastDepthAbove 4 = .ok (.iadd, 1) := by decide +kernel
theorem dX6_leastDepthAbove_5 : decode cX6_leastDepthAbove 5 = .ok (.istore_n 3, 1) := by decide +kernel
theorem dX6_leastDepthAbove_6 : decode cX6_leastDepthAbove 6 = .ok (.iload_n 3, 1) := by decide +kernel
theorem dX6_leastDepthAbove_7 : decode cX6_leastDepthAbove 7 = .ok (.aload_n 0, 1) := by decide +kernel
theorem dX6_leastDepthAbove_8 : decode cX6_leastDepthAbove 8 = .ok (.getfield 57, 3) := by decide +kernel
theorem dX6_leastDepthAbove_11 : decode cX6_leastDepthAbove 11 = .ok (.if_icmp .gt 40, 3) := by decide +kernel
theorem dX6_leastDepthAbove_14 : decode cX6_leastDepthAbove 14 = .ok (.aload_n 0, 1) := by decide +kernel
theorem dX6_leastDepthAbove_15 : decode cX6_leastDepthAbove 15 = .ok (.iload_n 3, 1) := by decide +kernel
theorem dX6_leastDepthAbove_16 : decode cX6_leastDepthAbove 16 = .ok (.iload_n 1, 1) := by decide +kernel
theorem dX6_leastDepthAbove_17 : decode cX6_leastDepthAbove 17 = .ok (.invokevirtual 69, 3) := by decide +kernel
theorem dX6_leastDepthAbove_20 : decode cX6_leastDepthAbove 20 = .ok (.ifCond .eq 25, 3) := by decide +kernel
theorem dX6_leastDepthAbove_23 : decode cX6_leastDepthAbove 23 = .ok (.iload_n 2, 1) := by decide +kernel
theorem dX6_leastDepthAbove_24 : decode cX6_leastDepthAbove 24 = .ok (.iconst (-1), 1) := by decide +kernel
theorem dX6_leastDepthAbove_25 : decode cX6_leastDepthAbove 25 = .ok (.if_icmp .eq 13, 3) := by decide +kernel
theorem dX6_leastDepthAbove_28 : decode cX6_leastDepthAbove 28 = .ok (.aload_n 0, 1) := by decide +kernel
theorem dX6_leastDepthAbove_29 : decode cX6_leastDepthAbove 29 = .ok (.getfield 9, 3) := by decide +kernel
theorem dX6_leastDepthAbove_32 : decode cX6_leastDepthAbove 32 = .ok (.iload_n 3, 1) := by decide +kernel
theorem dX6_leastDepthAbove_33 : decode cX6_leastDepthAbove 33 = .ok (.iaload, 1) := by decide +kernel
theorem dX6_leastDepthAbove_34 : decode cX6_leastDepthAbove 34 = .ok (.iload_n 2, 1) := by decide +kernel
theorem dX6_leastDepthAbove_35 : decode cX6_leastDepthAbove 35 = .ok (.if_icmp .ge 10, 3) := by decide +kernel
theorem dX6_leastDepthAbove_38 : decode cX6_leastDepthAbove 38 = .ok (.aload_n 0, 1) := by decide +kernel
theorem dX6_leastDepthAbove_39 : decode cX6_leastDepthAbove 39 = .ok (.getfield 9, 3) := by decide +kernel
theorem dX6_leastDepthAbove_42 : decode cX6_leastDepthAbove 42 = .ok (.iload_n 3, 1) := by decide +kernel
theorem dX6_leastDepthAbove_43 : decode cX6_leastDepthAbove 43 = .ok (.iaload, 1) := by decide +kernel
theorem dX6_leastDepthAbove_44 : decode cX6_leastDepthAbove 44 = .ok (.istore_n 2, 1) := by decide +kernel
theorem dX6_leastDepthAbove_45 : decode cX6_leastDepthAbove 45 = .ok (.iinc 3 1, 3) := by decide +kernel
theorem dX6_leastDepthAbove_48 : decode cX6_leastDepthAbove 48 = .ok (.goto (-42), 3) := by decide +kernel
theorem dX6_leastDepthAbove_51 : decode cX6_leastDepthAbove 51 = .ok (.iload_n 2, 1) := by decide +kernel
theorem dX6_leastDepthAbove_52 : decode cX6_leastDepthAbove 52 = .ok (.ireturn, 1) := by decide +kernel
noncomputable def fX6_leastDepthAbove_45 (k6 : (Nat → Int32) → Int32 → Int32 → Int32 → Int32 → Int32 → Option (Int32)) (t_depths : Nat → Int32) (t_all : Int32) (t_stride : Int32) (v1 : Int32) (v2 : Int32) (v3 : Int32) : Option (Int32) := k6 t_depths t_all t_stride v1 v2 (v3 + 1)
noncomputable def fX6_leastDepthAbove_38 (k6 : (Nat → Int32) → Int32 → Int32 → Int32 → Int32 → Int32 → Option (Int32)) (t_depths : Nat → Int32) (t_all : Int32) (t_stride : Int32) (v1 : Int32) (v3 : Int32) : Option (Int32) := chk 256 v3 (fX6_leastDepthAbove_45 k6 t_depths t_all t_stride v1 (t_depths v3.toNatClampNeg) v3)
noncomputable def fX6_leastDepthAbove_6  : Nat → (Nat → Int32) → Int32 → Int32 → Int32 → Int32 → Int32 → Option (Int32)
  | 0, _, _, _, _, _, _ => none
  | n + 1, t_depths, t_all, t_stride, v1, v2, v3 => (if t_all < v3 then some v2 else (fX6_leads t_depths t_stride v3 v1).bind fun r2 => (if r2 = 0 then fX6_leastDepthAbove_45 (fX6_leastDepthAbove_6 n) t_depths t_all t_stride v1 v2 v3 else (if v2 = (-1) then fX6_leastDepthAbove_38 (fX6_leastDepthAbove_6 n) t_depths t_all t_stride v1 v3 else chk 256 v3 ((if v2 ≤ (t_depths v3.toNatClampNeg) then fX6_leastDepthAbove_45 (fX6_leastDepthAbove_6 n) t_depths t_all t_stride v1 v2 v3 else fX6_leastDepthAbove_38 (fX6_leastDepthAbove_6 n) t_depths t_all t_stride v1 v3)))))
theorem fX6_leastDepthAbove_6_z  (t_depths : Nat → Int32) (t_all : Int32) (t_stride : Int32) (v1 : Int32) (v2 : Int32) (v3 : Int32) : fX6_leastDepthAbove_6  0 t_depths t_all t_stride v1 v2 v3 = none := rfl
theorem fX6_leastDepthAbove_6_s  (n : Nat) (t_depths : Nat → Int32) (t_all : Int32) (t_stride : Int32) (v1 : Int32) (v2 : Int32) (v3 : Int32) : fX6_leastDepthAbove_6  (n + 1) t_depths t_all t_stride v1 v2 v3 = (if t_all < v3 then some v2 else (fX6_leads t_depths t_stride v3 v1).bind fun r2 => (if r2 = 0 then fX6_leastDepthAbove_45 (fX6_leastDepthAbove_6 n) t_depths t_all t_stride v1 v2 v3 else (if v2 = (-1) then fX6_leastDepthAbove_38 (fX6_leastDepthAbove_6 n) t_depths t_all t_stride v1 v3 else chk 256 v3 ((if v2 ≤ (t_depths v3.toNatClampNeg) then fX6_leastDepthAbove_45 (fX6_leastDepthAbove_6 n) t_depths t_all t_stride v1 v2 v3 else fX6_leastDepthAbove_38 (fX6_leastDepthAbove_6 n) t_depths t_all t_stride v1 v3))))) := rfl
noncomputable def fX6_leastDepthAbove  (t_depths : Nat → Int32) (t_all : Int32) (t_stride : Int32) (v1 : Int32) : Option (Int32) := fX6_leastDepthAbove_6 FU t_depths t_all t_stride v1 (-1) (v1 + 1)
set_option maxHeartbeats 4000000 in
set_option maxRecDepth 100000 in
theorem ctX6_leastDepthAbove (l : Launch) (g : GT) (a_t : Nat → Nat) (t_all : Int32) (t_stride : Int32) (t_depths : Nat → Int32) (v1 : Int32) (o : Int32) (h : fX6_leastDepthAbove t_depths t_all t_stride v1 = some o) : Met l yX6_leastDepthAbove (Cond.code yX6_leastDepthAbove cX6_leastDepthAbove 4 (some .int) :: Tw) ⟨2, 0, 0, 43⟩ (va_Pc [.ref ((a_t 0)), .int v1] (roB g [((a_t 0), .inr (5, [.ref (a_t 1), .int t_all, .int t_stride])), ((a_t 1), .inl (g.2.2.1 0, 256, .inl t_depths))])) (vp_Si (fun x => x = o)) 0 0 (fun _ => False) := by
  refine ro_meti (by decide) (Nat.le_of_ble_eq_true rfl) (lv0 := [(0, .ref ((a_t 0))), (1, .int v1)]) rfl ?_
  intro p e s m args below meth c ls Q cx hret hG hP hl
  have hx := cx.1
  have hb := cx.2.1
  have hG0 := hG
  have w45 : ∀ (k6 : (Nat → Int32) → Int32 → Int32 → Int32 → Int32 → Int32 → Option (Int32)) (hk6 : ∀ (v1 : Int32) (v2 : Int32) (v3 : Int32) (ls : Array Slot), lv_has ls 4 [(0, .ref ((a_t 0))), (1, .int v1), (2, .int v2), (3, .int v3)] → k6 t_depths t_all t_stride v1 v2 v3 = some o → W p l e ⟨2, 0, 0, 43⟩ s m args below meth c s.heap [] 0 0 Q (F0 m 6 ls [])) (v1 : Int32) (v2 : Int32) (v3 : Int32) (ls : Array Slot), lv_has ls 4 [(0, .ref ((a_t 0))), (1, .int v1), (2, .int v2), (3, .int v3)] → fX6_leastDepthAbove_45 k6 t_depths t_all t_stride v1 v2 v3 = some o → W p l e ⟨2, 0, 0, 43⟩ s m args below meth c s.heap [] 0 0 Q (F0 m 45 ls []) := by
    intro k6 hk6 v1 v2 v3 ls hl h
    unfold fX6_leastDepthAbove_45 at h
    refine lv_iinc (v := v3 + 1) (lv' := [(3, .int (v3 + 1)), (0, .ref ((a_t 0))), (1, .int v1), (2, .int v2)]) hx hb dX6_leastDepthAbove_45 hl (k := 3) rfl rfl (by decide) rfl (fun ls hl => ?_)
    refine lv_goto (tgt := 6) hx hb dX6_leastDepthAbove_48 (by decide) ?_
    exact hk6 v1 v2 (v3 + 1) _ (lv_sub hl [1, 2, 3, 0] rfl) h
  have w38 : ∀ (k6 : (Nat → Int32) → Int32 → Int32 → Int32 → Int32 → Int32 → Option (Int32)) (hk6 : ∀ (v1 : Int32) (v2 : Int32) (v3 : Int32) (ls : Array Slot), lv_has ls 4 [(0, .ref ((a_t 0))), (1, .int v1), (2, .int v2), (3, .int v3)] → k6 t_depths t_all t_stride v1 v2 v3 = some o → W p l e ⟨2, 0, 0, 43⟩ s m args below meth c s.heap [] 0 0 Q (F0 m 6 ls [])) (v1 : Int32) (v3 : Int32) (ls : Array Slot), lv_has ls 4 [(0, .ref ((a_t 0))), (1, .int v1), (3, .int v3)] → fX6_leastDepthAbove_38 k6 t_depths t_all t_stride v1 v3 = some o → W p l e ⟨2, 0, 0, 43⟩ s m args below meth c s.heap [] 0 0 Q (F0 m 38 ls []) := by
    intro k6 hk6 v1 v3 ls hl h
    unfold fX6_leastDepthAbove_38 at h
    refine lv_aload_n hx hb dX6_leastDepthAbove_38 rfl (lv_at hl 0 rfl) ?_
    refine xa_get (C := RX6) (T := TX6) (N := 3) cx hG hP 0 rfl rfl uX6 0 (by decide) lf_X6_9 rfl dX6_leastDepthAbove_39 ?_
    refine lv_iload_n hx hb dX6_leastDepthAbove_42 rfl (lv_at hl 2 rfl) ?_
    obtain ⟨hi9, h⟩ := chk_out h
    refine xa_iald cx hG hP 1 rfl hi9 rfl dX6_leastDepthAbove_43 ?_
    refine lv_istore_n (lv' := [(2, .int (t_depths v3.toNatClampNeg)), (0, .ref ((a_t 0))), (1, .int v1), (3, .int v3)]) hx hb dX6_leastDepthAbove_44 rfl hl (by decide) rfl (fun ls hl => ?_)
    exact w45 _ hk6 v1 (t_depths v3.toNatClampNeg) v3 _ (lv_sub hl [1, 2, 0, 3] rfl) h
  have w6 : ∀ (n : Nat) (v1 : Int32) (v2 : Int32) (v3 : Int32) (ls : Array Slot), lv_has ls 4 [(0, .ref ((a_t 0))), (1, .int v1), (2, .int v2), (3, .int v3)] → fX6_leastDepthAbove_6  n t_depths t_all t_stride v1 v2 v3 = some o → W p l e ⟨2, 0, 0, 43⟩ s m args below meth c s.heap [] 0 0 Q (F0 m 6 ls []) := by
    intro n
    induction n with
    | zero => intro v1 v2 v3 ls hl h; cases (fX6_leastDepthAbove_6_z  t_depths t_all t_stride v1 v2 v3).symm.trans h
    | succ n ih =>
    intro v1 v2 v3 ls hl h
    have h := (fX6_leastDepthAbove_6_s  n t_depths t_all t_stride v1 v2 v3).symm.trans h
    refine lv_iload_n hx hb dX6_leastDepthAbove_6 rfl (lv_at hl 3 rfl) ?_
    refine lv_aload_n hx hb dX6_leastDepthAbove_7 rfl (lv_at hl 0 rfl) ?_
    refine xa_get (C := RX6) (T := TX6) (N := 3) cx hG hP 0 rfl rfl uX6 1 (by decide) lf_X6_57 rfl dX6_leastDepthAbove_8 ?_
    refine lv_icmp_gt (tgt := 51) hx hb dX6_leastDepthAbove_11 (by decide) (fun c1 => ?_) (fun c1 => ?_)
    · have h := itp c1 h
      refine lv_iload_n hx hb dX6_leastDepthAbove_51 rfl (lv_at hl 2 rfl) ?_
      exact hret _ _ _ dX6_leastDepthAbove_52 (Option.some.inj h)
    · have h := itn c1 h
      refine lv_aload_n hx hb dX6_leastDepthAbove_14 rfl (lv_at hl 0 rfl) ?_
      refine lv_iload_n hx hb dX6_leastDepthAbove_15 rfl (lv_at hl 3 rfl) ?_
      refine lv_iload_n hx hb dX6_leastDepthAbove_16 rfl (lv_at hl 1 rfl) ?_
      obtain ⟨r2, hr3, h⟩ := bnd h
      refine ro_z (runV (As := [.int v3, .int v1]) (rest := []) cx hl.1 (ctX6_leads l g a_t t_all t_stride t_depths v3 v1 r2 hr3) kmX6_leads kvX6_leads lm_X6_69 ⟨rfl, rfl⟩ ⟨Nat.le_of_ble_eq_true rfl, Nat.le_of_ble_eq_true rfl⟩ (roV (q0 := 0) (ci := 5) hG (hP.sub [0, 1] rfl) hP rfl rfl) rfl rfl (Nat.le_of_ble_eq_true rfl) dX6_leastDepthAbove_17 ⟨Nat.le_of_ble_eq_true rfl, Nat.le_of_ble_eq_true rfl⟩) (fun hz4 => ?_)
      refine lv_if_eq (tgt := 45) hx hb dX6_leastDepthAbove_20 (by decide) (fun c5 => ?_) (fun c5 => ?_)
      · have h := itp c5 h
        exact w45 _ ih v1 v2 v3 _ (lv_sub hl [0, 1, 2, 3] rfl) h
      · have h := itn c5 h
        refine lv_iload_n hx hb dX6_leastDepthAbove_23 rfl (lv_at hl 2 rfl) ?_
        refine lv_iconst (v := -1) hx hb dX6_leastDepthAbove_24 (by decide) ?_
        refine lv_icmp_eq (tgt := 38) hx hb dX6_leastDepthAbove_25 (by decide) (fun c6 => ?_) (fun c6 => ?_)
        · have h := itp c6 h
          exact w38 _ ih v1 v3 _ (lv_sub hl [0, 1, 3] rfl) h
        · have h := itn c6 h
          refine lv_aload_n hx hb dX6_leastDepthAbove_28 rfl (lv_at hl 0 rfl) ?_
          refine xa_get (C := RX6) (T := TX6) (N := 3) cx hG hP 0 rfl rfl uX6 0 (by decide) lf_X6_9 rfl dX6_leastDepthAbove_29 ?_
          refine lv_iload_n hx hb dX6_leastDepthAbove_32 rfl (lv_at hl 3 rfl) ?_
          obtain ⟨hi7, h⟩ := chk_out h
          refine xa_iald cx hG hP 1 rfl hi7 rfl dX6_leastDepthAbove_33 ?_
          refine lv_iload_n hx hb dX6_leastDepthAbove_34 rfl (lv_at hl 2 rfl) ?_
          refine lv_icmp_ge (tgt := 45) hx hb dX6_leastDepthAbove_35 (by decide) (fun c8 => ?_) (fun c8 => ?_)
          · have h := itp c8 h
            exact w45 _ ih v1 v2 v3 _ (lv_sub hl [0, 1, 2, 3] rfl) h
          · have h := itn c8 h
            exact w38 _ ih v1 v3 _ (lv_sub hl [0, 1, 3] rfl) h
  unfold fX6_leastDepthAbove at h
  refine lv_iconst (v := -1) hx hb dX6_leastDepthAbove_0 (by decide) ?_
  refine lv_istore_n (lv' := [(2, .int (-1)), (0, .ref ((a_t 0))), (1, .int v1)]) hx hb dX6_leastDepthAbove_1 rfl hl (by decide) rfl (fun ls hl => ?_)
  refine lv_iload_n hx hb dX6_leastDepthAbove_2 rfl (lv_at hl 2 rfl) ?_
  refine lv_iconst (v := 1) hx hb dX6_leastDepthAbove_3 (by decide) ?_
  refine lv_iadd hx hb dX6_leastDepthAbove_4 ?_
  refine lv_istore_n (lv' := [(3, .int (v1 + 1)), (2, .int (-1)), (0, .ref ((a_t 0))), (1, .int v1)]) hx hb dX6_leastDepthAbove_5 rfl hl (by decide) rfl (fun ls hl => ?_)
  exact w6 FU v1 (-1) (v1 + 1) _ (lv_sub hl [2, 3, 1, 0] rfl) h
-- X6_explore
theorem dX6_explore_0 : decode cX6_explore 0 = .ok (.aload_n 0, 1) := by decide +kernel
theorem dX6_explore_1 : decode cX6_explore 1 = .ok (.iload_n 3, 1) := by decide +kernel
theorem dX6_explore_2 : decode cX6_explore 2 = .ok (.putfield 47, 3) := by decide +kernel
theorem dX6_explore_5 : decode cX6_explore 5 = .ok (.aload_n 0, 1) := by decide +kernel
theorem dX6_explore_6 : decode cX6_explore 6 = .ok (.aload_n 1, 1) := by decide +kernel
theorem dX6_explore_7 : decode cX6_explore 7 = .ok (.invokevirtual 40, 3) := by decide +kernel
theorem dX6_explore_10 : decode cX6_explore 10 = .ok (.aload_n 0, 1) := by decide +kernel
theorem dX6_explore_11 : decode cX6_explore 11 = .ok (.getfield 9, 3) := by decide +kernel
theorem dX6_explore_14 : decode cX6_explore 14 = .ok (.arraylength, 1) := by decide +kernel
theorem dX6_explore_15 : decode cX6_explore 15 = .ok (.iconst 1, 1) := by decide +kernel
theorem dX6_explore_16 : decode cX6_explore 16 = .ok (.isub, 1) := by decide +kernel
theorem dX6_explore_17 : decode cX6_explore 17 = .ok (.invokestatic 51, 3) := by decide +kernel
theorem dX6_explore_20 : decode cX6_explore 20 = .ok (.putfield 57, 3) := by decide +kernel
theorem dX6_explore_23 : decode cX6_explore 23 = .ok (.aload_n 0, 1) := by decide +kernel
theorem dX6_explore_24 : decode cX6_explore 24 = .ok (.getfield 9, 3) := by decide +kernel
theorem dX6_explore_27 : decode cX6_explore 27 = .ok (.iconst (-1), 1) := by decide +kernel
theorem dX6_explore_28 : decode cX6_explore 28 = .ok (.invokestatic 60, 3) := by decide +kernel
theorem dX6_explore_31 : decode cX6_explore 31 = .ok (.aload_n 0, 1) := by decide +kernel
theorem dX6_explore_32 : decode cX6_explore 32 = .ok (.getfield 57, 3) := by decide +kernel
theorem dX6_explore_35 : decode cX6_explore 35 = .ok (.ifCond .lt 15, 3) := by decide +kernel
theorem dX6_explore_38 : decode cX6_explore 38 = .ok (.aload_n 1, 1) := by decide +kernel
theorem dX6_explore_39 : decode cX6_explore 39 = .ok (.aload_n 0, 1) := by decide +kernel
theorem dX6_explore_40 : decode cX6_explore 40 = .ok (.getfield 57, 3) := by decide +kernel
theorem dX6_explore_43 : decode cX6_explore 43 = .ok (.iload_n 2, 1) := by decide +kernel
theorem dX6_explore_44 : decode cX6_explore 44 = .ok (.invokestatic 43, 3) := by decide +kernel
theorem dX6_explore_47 : decode cX6_explore 47 = .ok (.ifCond .ne 4, 3) := by decide +kernel
theorem dX6_explore_50 : decode cX6_explore 50 = .ok (.return_, 1) := by decide +kernel
theorem dX6_explore_51 : decode cX6_explore 51 = .ok (.aload_n 0, 1) := by decide +kernel
theorem dX6_explore_52 : decode cX6_explore 52 = .ok (.getfield 9, 3) := by decide +kernel
theorem dX6_explore_55 : decode cX6_explore 55 = .ok (.aload_n 0, 1) := by decide +kernel
theorem dX6_explore_56 : decode cX6_explore 56 = .ok (.getfield 57, 3) := by decide +kernel
theorem dX6_explore_59 : decode cX6_explore 59 = .ok (.iconst 0, 1) := by decide +kernel
theorem dX6_explore_60 : decode cX6_explore 60 = .ok (.iastore, 1) := by decide +kernel
theorem dX6_explore_61 : decode cX6_explore 61 = .ok (.aload_n 0, 1) := by decide +kernel
theorem dX6_explore_62 : decode cX6_explore 62 = .ok (.getfield 57, 3) := by decide +kernel
theorem dX6_explore_65 : decode cX6_explore 65 = .ok (.iconst 1, 1) := by decide +kernel
theorem dX6_explore_66 : decode cX6_explore 66 = .ok (.isub, 1) := by decide +kernel
theorem dX6_explore_67 : decode cX6_explore 67 = .ok (.istore 4, 2) := by decide +kernel
theorem dX6_explore_69 : decode cX6_explore 69 = .ok (.iload 4, 2) := by decide +kernel
theorem dX6_explore_71 : decode cX6_explore 71 = .ok (.iconst 1, 1) := by decide +kernel
theorem dX6_explore_72 : decode cX6_explore 72 = .ok (.if_icmp .lt 44, 3) := by decide +kernel
theorem dX6_explore_75 : decode cX6_explore 75 = .ok (.aload_n 0, 1) := by decide +kernel
theorem dX6_explore_76 : decode cX6_explore 76 = .ok (.iload 4, 2) := by decide +kernel
theorem dX6_explore_78 : decode cX6_explore 78 = .ok (.invokevirtual 66, 3) := by decide +kernel
theorem dX6_explore_81 : decode cX6_explore 81 = .ok (.istore 5, 2) := by decide +kernel
theorem dX6_explore_83 : decode cX6_explore 83 = .ok (.iload 5, 2) := by decide +kernel
theorem dX6_explore_85 : decode cX6_explore 85 = .ok (.iconst (-1), 1) := by decide +kernel
theorem dX6_explore_86 : decode cX6_explore 86 = .ok (.if_icmp .eq 24, 3) := by decide +kernel
theorem dX6_explore_89 : decode cX6_explore 89 = .ok (.aload_n 1, 1) := by decide +kernel
theorem dX6_explore_90 : decode cX6_explore 90 = .ok (.iload 4, 2) := by decide +kernel
theorem dX6_explore_92 : decode cX6_explore 92 = .ok (.iload_n 2, 1) := by decide +kernel
theorem dX6_explore_93 : decode cX6_explore 93 = .ok (.invokestatic 43, 3) := by decide +kernel
theorem dX6_explore_96 : decode cX6_explore 96 = .ok (.ifCond .eq 14, 3) := by decide +kernel
theorem dX6_explore_99 : decode cX6_explore 99 = .ok (.aload_n 0, 1) := by decide +kernel
theorem dX6_explore_100 : decode cX6_explore 100 = .ok (.getfield 9, 3) := by decide +kernel
theorem dX6_explore_103 : decode cX6_explore 103 = .ok (.iload 4, 2) := by decide +kernel
theorem dX6_explore_105 : decode cX6_explore 105 = .ok (.iload 5, 2) := by decide +kernel
theorem dX6_explore_107 : decode cX6_explore 107 = .ok (.iconst 1, 1) := by decide +kernel
theorem dX6_explore_108 : decode cX6_explore 108 = .ok (.iadd, 1) := by decide +kernel
theorem dX6_explore_109 : decode cX6_explore 109 = .ok (.iastore, 1) := by decide +kernel
theorem dX6_explore_110 : decode cX6_explore 110 = .ok (.iinc 4 (-1), 3) := by decide +kernel
theorem dX6_explore_113 : decode cX6_explore 113 = .ok (.goto (-44), 3) := by decide +kernel
theorem dX6_explore_116 : decode cX6_explore 116 = .ok (.return_, 1) := by decide +kernel
noncomputable def fX6_explore_110 (k69 : (Nat → Int32) → Int32 → Int32 → (Nat → Int32) → (Nat → Int32) → (Nat → Int32) → (Nat → Int32) → Int32 → Int32 → Int32 → Option ((Nat → Int32) × Int32 × Int32)) (t_depths : Nat → Int32) (t_all : Int32) (t_stride : Int32) (p1_cells : Nat → Int32) (p1_rows : Nat → Int32) (p1_sizes : Nat → Int32) (p1_rooms : Nat → Int32) (p1_acts : Int32) (v2 : Int32) (v4 : Int32) : Option ((Nat → Int32) × Int32 × Int32) := k69 t_depths t_all t_stride p1_cells p1_rows p1_sizes p1_rooms p1_acts v2 (v4 + (-1))
noncomputable def fX6_explore_69  : Nat → (Nat → Int32) → Int32 → Int32 → (Nat → Int32) → (Nat → Int32) → (Nat → Int32) → (Nat → Int32) → Int32 → Int32 → Int32 → Option ((Nat → Int32) × Int32 × Int32)
  | 0, _, _, _, _, _, _, _, _, _, _ => none
  | n + 1, t_depths, t_all, t_stride, p1_cells, p1_rows, p1_sizes, p1_rooms, p1_acts, v2, v4 => (if v4 < 1 then some (t_depths, t_all, t_stride) else (fX6_leastDepthAbove t_depths t_all t_stride v4).bind fun r13 => (if r13 = (-1) then fX6_explore_110 (fX6_explore_69 n) t_depths t_all t_stride p1_cells p1_rows p1_sizes p1_rooms p1_acts v2 v4 else (fX6_isThin p1_cells p1_rows p1_sizes p1_rooms p1_acts v4 v2).bind fun r16 => (if r16 = 0 then fX6_explore_110 (fX6_explore_69 n) t_depths t_all t_stride p1_cells p1_rows p1_sizes p1_rooms p1_acts v2 v4 else chk 256 v4 (fX6_explore_110 (fX6_explore_69 n) (upd t_depths v4.toNatClampNeg (r13 + 1)) t_all t_stride p1_cells p1_rows p1_sizes p1_rooms p1_acts v2 v4))))
theorem fX6_explore_69_z  (t_depths : Nat → Int32) (t_all : Int32) (t_stride : Int32) (p1_cells : Nat → Int32) (p1_rows : Nat → Int32) (p1_sizes : Nat → Int32) (p1_rooms : Nat → Int32) (p1_acts : Int32) (v2 : Int32) (v4 : Int32) : fX6_explore_69  0 t_depths t_all t_stride p1_cells p1_rows p1_sizes p1_rooms p1_acts v2 v4 = none := rfl
theorem fX6_explore_69_s  (n : Nat) (t_depths : Nat → Int32) (t_all : Int32) (t_stride : Int32) (p1_cells : Nat → Int32) (p1_rows : Nat → Int32) (p1_sizes : Nat → Int32) (p1_rooms : Nat → Int32) (p1_acts : Int32) (v2 : Int32) (v4 : Int32) : fX6_explore_69  (n + 1) t_depths t_all t_stride p1_cells p1_rows p1_sizes p1_rooms p1_acts v2 v4 = (if v4 < 1 then some (t_depths, t_all, t_stride) else (fX6_leastDepthAbove t_depths t_all t_stride v4).bind fun r13 => (if r13 = (-1) then fX6_explore_110 (fX6_explore_69 n) t_depths t_all t_stride p1_cells p1_rows p1_sizes p1_rooms p1_acts v2 v4 else (fX6_isThin p1_cells p1_rows p1_sizes p1_rooms p1_acts v4 v2).bind fun r16 => (if r16 = 0 then fX6_explore_110 (fX6_explore_69 n) t_depths t_all t_stride p1_cells p1_rows p1_sizes p1_rooms p1_acts v2 v4 else chk 256 v4 (fX6_explore_110 (fX6_explore_69 n) (upd t_depths v4.toNatClampNeg (r13 + 1)) t_all t_stride p1_cells p1_rows p1_sizes p1_rooms p1_acts v2 v4)))) := rfl
noncomputable def fX6_explore  (t_depths : Nat → Int32) (t_all : Int32) (t_stride : Int32) (p1_cells : Nat → Int32) (p1_rows : Nat → Int32) (p1_sizes : Nat → Int32) (p1_rooms : Nat → Int32) (p1_acts : Int32) (v2 : Int32) (v3 : Int32) : Option ((Nat → Int32) × Int32 × Int32) := (fX1_allPlies p1_sizes p1_acts).bind fun r1 => (fJ7_fill_53178 256 t_depths (-1)).bind fun w4 => (if (imin r1 (256 - 1)) < 0 then some (w4, imin r1 (256 - 1), v3) else (fX6_isThin p1_cells p1_rows p1_sizes p1_rooms p1_acts (imin r1 (256 - 1)) v2).bind fun r7 => (if r7 = 0 then some (w4, imin r1 (256 - 1), v3) else chk 256 (imin r1 (256 - 1)) (fX6_explore_69 FU (upd w4 ((imin r1 (256 - 1)).toNatClampNeg) 0) (imin r1 (256 - 1)) v3 p1_cells p1_rows p1_sizes p1_rooms p1_acts v2 ((imin r1 (256 - 1)) - 1))))
set_option maxHeartbeats 4000000 in
set_option maxRecDepth 100000 in
theorem ctX6_explore (l : Launch) (g : GT) (sz : Nat) (a_t : Nat → Nat) (a_p1 : Nat → Nat) (t_all : Int32) (t_stride : Int32) (t_depths : Nat → Int32) (p1_told : Int32) (p1_lines : Int32) (p1_kinds : Int32) (p1_acts : Int32) (p1_cells : Nat → Int32) (p1_rows : Nat → Int32) (p1_sizes : Nat → Int32) (p1_rooms : Nat → Int32) (v2 : Int32) (v3 : Int32) (o_t_depths : Nat → Int32) (o_t_all : Int32) (o_t_stride : Int32) (h : fX6_explore t_depths t_all t_stride p1_cells p1_rows p1_sizes p1_rooms p1_acts v2 v3 = some (o_t_depths, o_t_all, o_t_stride)) : Met l yX6_explore (Cond.code yX6_explore cX6_explore 6 none :: Tw) ⟨6, 0, 0, 145⟩ (va_Pc [.ref ((a_t 0)), .ref ((a_p1 0)), .int v2, .int v3] (rwB g [((a_t 0), .inr (5, [.ref (a_t 1), .int t_all, .int t_stride])), ((a_t 1), .inl (g.2.2.1 0, 256, .inl t_depths)), ((a_p1 0), .inr (1, [.ref (a_p1 1), .ref (a_p1 2), .ref (a_p1 3), .ref (a_p1 4), .ref (a_p1 5), .int p1_told, .int p1_lines, .int p1_kinds, .int p1_acts])), ((a_p1 2), .inl (g.2.2.1 0, 144, .inl p1_cells)), ((a_p1 3), .inl (g.2.2.1 0, 31, .inl p1_rows)), ((a_p1 4), .inl (g.2.2.1 0, 31, .inl p1_sizes)), ((a_p1 5), .inl (g.2.2.1 0, 31, .inl p1_rooms))] sz)) (va_Qv (fun (_ : Nat → Nat) => True) (fun u => rwE g (va_A [((a_t 0), .inr (5, [.ref (a_t 1), .int t_all, .int t_stride])), ((a_t 1), .inl (g.2.2.1 0, 256, .inl t_depths)), ((a_p1 0), .inr (1, [.ref (a_p1 1), .ref (a_p1 2), .ref (a_p1 3), .ref (a_p1 4), .ref (a_p1 5), .int p1_told, .int p1_lines, .int p1_kinds, .int p1_acts])), ((a_p1 2), .inl (g.2.2.1 0, 144, .inl p1_cells)), ((a_p1 3), .inl (g.2.2.1 0, 31, .inl p1_rows)), ((a_p1 4), .inl (g.2.2.1 0, 31, .inl p1_sizes)), ((a_p1 5), .inl (g.2.2.1 0, 31, .inl p1_rooms))] sz) [((a_t 0), .inr (5, [.ref (a_t 1), .int o_t_all, .int o_t_stride])), ((a_t 1), .inl (g.2.2.1 0, 256, .inl o_t_depths)), ((a_p1 0), .inr (1, [.ref (a_p1 1), .ref (a_p1 2), .ref (a_p1 3), .ref (a_p1 4), .ref (a_p1 5), .int p1_told, .int p1_lines, .int p1_kinds, .int p1_acts])), ((a_p1 2), .inl (g.2.2.1 0, 144, .inl p1_cells)), ((a_p1 3), .inl (g.2.2.1 0, 31, .inl p1_rows)), ((a_p1 4), .inl (g.2.2.1 0, 31, .inl p1_sizes)), ((a_p1 5), .inl (g.2.2.1 0, 31, .inl p1_rooms))]) (va_A [((a_t 0), .inr (5, [.ref (a_t 1), .int t_all, .int t_stride])), ((a_t 1), .inl (g.2.2.1 0, 256, .inl t_depths)), ((a_p1 0), .inr (1, [.ref (a_p1 1), .ref (a_p1 2), .ref (a_p1 3), .ref (a_p1 4), .ref (a_p1 5), .int p1_told, .int p1_lines, .int p1_kinds, .int p1_acts])), ((a_p1 2), .inl (g.2.2.1 0, 144, .inl p1_cells)), ((a_p1 3), .inl (g.2.2.1 0, 31, .inl p1_rows)), ((a_p1 4), .inl (g.2.2.1 0, 31, .inl p1_sizes)), ((a_p1 5), .inl (g.2.2.1 0, 31, .inl p1_rooms))] sz)) 0 0 (va_A [((a_t 0), .inr (5, [.ref (a_t 1), .int t_all, .int t_stride])), ((a_t 1), .inl (g.2.2.1 0, 256, .inl t_depths)), ((a_p1 0), .inr (1, [.ref (a_p1 1), .ref (a_p1 2), .ref (a_p1 3), .ref (a_p1 4), .ref (a_p1 5), .int p1_told, .int p1_lines, .int p1_kinds, .int p1_acts])), ((a_p1 2), .inl (g.2.2.1 0, 144, .inl p1_cells)), ((a_p1 3), .inl (g.2.2.1 0, 31, .inl p1_rows)), ((a_p1 4), .inl (g.2.2.1 0, 31, .inl p1_sizes)), ((a_p1 5), .inl (g.2.2.1 0, 31, .inl p1_rooms))] sz) := by
  refine rw_metv (by decide) (Nat.le_of_ble_eq_true rfl) (lv0 := [(0, .ref ((a_t 0))), (1, .ref ((a_p1 0))), (2, .int v2), (3, .int v3)]) rfl ?_
  intro p e s m args below meth c ls Q A cx hret hG hAb hb0 hA hP hD hl
  have hx := cx.1
  have hb := cx.2.1
  have hG0 := hG
  have hGk : ∀ {H : Heap} {locs : List Loc}, va_S A s.heap H locs → GE g s H := fun hS => hG0.keptS hAb hS
  have hSb : ∀ {H : Heap} {locs : List Loc}, va_S A s.heap H locs → va_S (fun a => g.1 ≤ a) s.heap H locs := fun hS => ⟨hS.1, fun q h1 h2 => hS.2.1 q h1 (fun z => h2 (hAb q z)), fun l hl => hAb _ (hS.2.2 l hl)⟩
  have hS : va_S A s.heap s.heap [] := va_S.rf
  have hrt : ∀ (u : Nat → Nat) (pc : Nat) (ls : Array Slot) (x_t_depths : Nat → Int32) (x_t_all : Int32) (x_t_stride : Int32) (H : Heap) (locs : List Loc), decode cX6_explore pc = .ok (.return_, 1) → some (x_t_depths, x_t_all, x_t_stride) = some (o_t_depths, o_t_all, o_t_stride) → va_P g.2.1 vwCl [((a_t 0), .inr (5, [.ref (a_t 1), .int x_t_all, .int x_t_stride])), ((a_t 1), .inl (g.2.2.1 0, 256, .inl x_t_depths)), ((a_p1 0), .inr (1, [.ref (a_p1 1), .ref (a_p1 2), .ref (a_p1 3), .ref (a_p1 4), .ref (a_p1 5), .int p1_told, .int p1_lines, .int p1_kinds, .int p1_acts])), ((a_p1 2), .inl (g.2.2.1 0, 144, .inl p1_cells)), ((a_p1 3), .inl (g.2.2.1 0, 31, .inl p1_rows)), ((a_p1 4), .inl (g.2.2.1 0, 31, .inl p1_sizes)), ((a_p1 5), .inl (g.2.2.1 0, 31, .inl p1_rooms))] H → va_D A [((a_t 0), .inr (5, [.ref (a_t 1), .int x_t_all, .int x_t_stride])), ((a_t 1), .inl (g.2.2.1 0, 256, .inl x_t_depths)), ((a_p1 0), .inr (1, [.ref (a_p1 1), .ref (a_p1 2), .ref (a_p1 3), .ref (a_p1 4), .ref (a_p1 5), .int p1_told, .int p1_lines, .int p1_kinds, .int p1_acts])), ((a_p1 2), .inl (g.2.2.1 0, 144, .inl p1_cells)), ((a_p1 3), .inl (g.2.2.1 0, 31, .inl p1_rows)), ((a_p1 4), .inl (g.2.2.1 0, 31, .inl p1_sizes)), ((a_p1 5), .inl (g.2.2.1 0, 31, .inl p1_rooms))] → va_S A s.heap H locs → W p l e ⟨6, 0, 0, 145⟩ s m args below meth c H locs 0 0 Q (F0 m pc ls []) := by
    intro u pc ls x_t_depths x_t_all x_t_stride H locs hd h hP hD hS
    cases h
    exact hret u _ _ _ _ hd hP hD hS
  have w110 : ∀ (k69 : (Nat → Int32) → Int32 → Int32 → (Nat → Int32) → (Nat → Int32) → (Nat → Int32) → (Nat → Int32) → Int32 → Int32 → Int32 → Option ((Nat → Int32) × Int32 × Int32)) (hk69 : ∀ (t_depths : Nat → Int32) (t_all : Int32) (t_stride : Int32) (v2 : Int32) (v4 : Int32) (H : Heap) (locs : List Loc), va_P g.2.1 vwCl [((a_t 0), .inr (5, [.ref (a_t 1), .int t_all, .int t_stride])), ((a_t 1), .inl (g.2.2.1 0, 256, .inl t_depths)), ((a_p1 0), .inr (1, [.ref (a_p1 1), .ref (a_p1 2), .ref (a_p1 3), .ref (a_p1 4), .ref (a_p1 5), .int p1_told, .int p1_lines, .int p1_kinds, .int p1_acts])), ((a_p1 2), .inl (g.2.2.1 0, 144, .inl p1_cells)), ((a_p1 3), .inl (g.2.2.1 0, 31, .inl p1_rows)), ((a_p1 4), .inl (g.2.2.1 0, 31, .inl p1_sizes)), ((a_p1 5), .inl (g.2.2.1 0, 31, .inl p1_rooms))] H → va_D A [((a_t 0), .inr (5, [.ref (a_t 1), .int t_all, .int t_stride])), ((a_t 1), .inl (g.2.2.1 0, 256, .inl t_depths)), ((a_p1 0), .inr (1, [.ref (a_p1 1), .ref (a_p1 2), .ref (a_p1 3), .ref (a_p1 4), .ref (a_p1 5), .int p1_told, .int p1_lines, .int p1_kinds, .int p1_acts])), ((a_p1 2), .inl (g.2.2.1 0, 144, .inl p1_cells)), ((a_p1 3), .inl (g.2.2.1 0, 31, .inl p1_rows)), ((a_p1 4), .inl (g.2.2.1 0, 31, .inl p1_sizes)), ((a_p1 5), .inl (g.2.2.1 0, 31, .inl p1_rooms))] → va_S A s.heap H locs → ∀ (ls : Array Slot), lv_has ls 6 [(0, .ref ((a_t 0))), (1, .ref ((a_p1 0))), (2, .int v2), (4, .int v4)] → k69 t_depths t_all t_stride p1_cells p1_rows p1_sizes p1_rooms p1_acts v2 v4 = some (o_t_depths, o_t_all, o_t_stride) → W p l e ⟨6, 0, 0, 145⟩ s m args below meth c H locs 0 0 Q (F0 m 69 ls [])) (t_depths : Nat → Int32) (t_all : Int32) (t_stride : Int32) (v2 : Int32) (v4 : Int32) (H : Heap) (locs : List Loc), va_P g.2.1 vwCl [((a_t 0), .inr (5, [.ref (a_t 1), .int t_all, .int t_stride])), ((a_t 1), .inl (g.2.2.1 0, 256, .inl t_depths)), ((a_p1 0), .inr (1, [.ref (a_p1 1), .ref (a_p1 2), .ref (a_p1 3), .ref (a_p1 4), .ref (a_p1 5), .int p1_told, .int p1_lines, .int p1_kinds, .int p1_acts])), ((a_p1 2), .inl (g.2.2.1 0, 144, .inl p1_cells)), ((a_p1 3), .inl (g.2.2.1 0, 31, .inl p1_rows)), ((a_p1 4), .inl (g.2.2.1 0, 31, .inl p1_sizes)), ((a_p1 5), .inl (g.2.2.1 0, 31, .inl p1_rooms))] H → va_D A [((a_t 0), .inr (5, [.ref (a_t 1), .int t_all, .int t_stride])), ((a_t 1), .inl (g.2.2.1 0, 256, .inl t_depths)), ((a_p1 0), .inr (1, [.ref (a_p1 1), .ref (a_p1 2), .ref (a_p1 3), .ref (a_p1 4), .ref (a_p1 5), .int p1_told, .int p1_lines, .int p1_kinds, .int p1_acts])), ((a_p1 2), .inl (g.2.2.1 0, 144, .inl p1_cells)), ((a_p1 3), .inl (g.2.2.1 0, 31, .inl p1_rows)), ((a_p1 4), .inl (g.2.2.1 0, 31, .inl p1_sizes)), ((a_p1 5), .inl (g.2.2.1 0, 31, .inl p1_rooms))] → va_S A s.heap H locs → ∀ (ls : Array Slot), lv_has ls 6 [(0, .ref ((a_t 0))), (1, .ref ((a_p1 0))), (2, .int v2), (4, .int v4)] → fX6_explore_110 k69 t_depths t_all t_stride p1_cells p1_rows p1_sizes p1_rooms p1_acts v2 v4 = some (o_t_depths, o_t_all, o_t_stride) → W p l e ⟨6, 0, 0, 145⟩ s m args below meth c H locs 0 0 Q (F0 m 110 ls []) := by
    intro k69 hk69 t_depths t_all t_stride v2 v4 H locs hP hD hS ls hl h
    unfold fX6_explore_110 at h
    have hG := hGk hS
    refine lv_iinc (v := v4 + (-1)) (lv' := [(4, .int (v4 + (-1))), (0, .ref ((a_t 0))), (1, .ref ((a_p1 0))), (2, .int v2)]) hx hb dX6_explore_110 hl (k := 3) rfl rfl (by decide) rfl (fun ls hl => ?_)
    refine lv_goto (tgt := 69) hx hb dX6_explore_113 (by decide) ?_
    exact hk69 t_depths t_all t_stride v2 (v4 + (-1)) _ _ hP hD hS _ (lv_sub hl [1, 2, 3, 0] rfl) h
  have w69 : ∀ (n : Nat) (t_depths : Nat → Int32) (t_all : Int32) (t_stride : Int32) (v2 : Int32) (v4 : Int32) (H : Heap) (locs : List Loc), va_P g.2.1 vwCl [((a_t 0), .inr (5, [.ref (a_t 1), .int t_all, .int t_stride])), ((a_t 1), .inl (g.2.2.1 0, 256, .inl t_depths)), ((a_p1 0), .inr (1, [.ref (a_p1 1), .ref (a_p1 2), .ref (a_p1 3), .ref (a_p1 4), .ref (a_p1 5), .int p1_told, .int p1_lines, .int p1_kinds, .int p1_acts])), ((a_p1 2), .inl (g.2.2.1 0, 144, .inl p1_cells)), ((a_p1 3), .inl (g.2.2.1 0, 31, .inl p1_rows)), ((a_p1 4), .inl (g.2.2.1 0, 31, .inl p1_sizes)), ((a_p1 5), .inl (g.2.2.1 0, 31, .inl p1_rooms))] H → va_D A [((a_t 0), .inr (5, [.ref (a_t 1), .int t_all, .int t_stride])), ((a_t 1), .inl (g.2.2.1 0, 256, .inl t_depths)), ((a_p1 0), .inr (1, [.ref (a_p1 1), .ref (a_p1 2), .ref (a_p1 3), .ref (a_p1 4), .ref (a_p1 5), .int p1_told, .int p1_lines, .int p1_kinds, .int p1_acts])), ((a_p1 2), .inl (g.2.2.1 0, 144, .inl p1_cells)), ((a_p1 3), .inl (g.2.2.1 0, 31, .inl p1_rows)), ((a_p1 4), .inl (g.2.2.1 0, 31, .inl p1_sizes)), ((a_p1 5), .inl (g.2.2.1 0, 31, .inl p1_rooms))] → va_S A s.heap H locs → ∀ (ls : Array Slot), lv_has ls 6 [(0, .ref ((a_t 0))), (1, .ref ((a_p1 0))), (2, .int v2), (4, .int v4)] → fX6_explore_69  n t_depths t_all t_stride p1_cells p1_rows p1_sizes p1_rooms p1_acts v2 v4 = some (o_t_depths, o_t_all, o_t_stride) → W p l e ⟨6, 0, 0, 145⟩ s m args below meth c H locs 0 0 Q (F0 m 69 ls []) := by
    intro n
    induction n with
    | zero => intro t_depths t_all t_stride v2 v4 H locs hP hD hS ls hl h; cases (fX6_explore_69_z  t_depths t_all t_stride p1_cells p1_rows p1_sizes p1_rooms p1_acts v2 v4).symm.trans h
    | succ n ih =>
    intro t_depths t_all t_stride v2 v4 H locs hP hD hS ls hl h
    have h := (fX6_explore_69_s  n t_depths t_all t_stride p1_cells p1_rows p1_sizes p1_rooms p1_acts v2 v4).symm.trans h
    have hG := hGk hS
    refine lv_iload hx hb dX6_explore_69 (lv_at hl 3 rfl) ?_
    refine lv_iconst (v := 1) hx hb dX6_explore_71 (by decide) ?_
    refine lv_icmp_lt (tgt := 116) hx hb dX6_explore_72 (by decide) (fun c12 => ?_) (fun c12 => ?_)
    · have h := itp c12 h
      exact hrt (fun _ => 0) _ _ t_depths t_all t_stride _ _ dX6_explore_116 h (hP.sub [0, 1, 2, 3, 4, 5, 6] rfl) (hD.sub [0, 1, 2, 3, 4, 5, 6] (by decide) rfl) hS
    · have h := itn c12 h
      refine lv_aload_n hx hb dX6_explore_75 rfl (lv_at hl 0 rfl) ?_
      refine lv_iload hx hb dX6_explore_76 (lv_at hl 3 rfl) ?_
      obtain ⟨r13, hr14, h⟩ := bnd h
      refine ro_i (runV (As := [.int v4]) (rest := []) cx hl.1 (ctX6_leastDepthAbove l g a_t t_all t_stride t_depths v4 r13 hr14) kmX6_leastDepthAbove kvX6_leastDepthAbove lm_X6_66 ⟨rfl, rfl⟩ ⟨Nat.le_of_ble_eq_true rfl, Nat.le_of_ble_eq_true rfl⟩ (roV (q0 := 0) (ci := 5) hG (hP.sub [0, 1] rfl) hP rfl rfl) rfl rfl (Nat.le_of_ble_eq_true rfl) dX6_explore_78 ⟨Nat.le_of_ble_eq_true rfl, Nat.le_of_ble_eq_true rfl⟩) ?_
      refine lv_istore (lv' := [(5, .int r13), (0, .ref ((a_t 0))), (1, .ref ((a_p1 0))), (2, .int v2), (4, .int v4)]) hx hb dX6_explore_81 hl (by decide) rfl (fun ls hl => ?_)
      refine lv_iload hx hb dX6_explore_83 (lv_at hl 0 rfl) ?_
      refine lv_iconst (v := -1) hx hb dX6_explore_85 (by decide) ?_
      refine lv_icmp_eq (tgt := 110) hx hb dX6_explore_86 (by decide) (fun c15 => ?_) (fun c15 => ?_)
      · have h := itp c15 h
        exact w110 _ ih t_depths t_all t_stride v2 v4 _ _ hP hD hS _ (lv_sub hl [1, 2, 3, 4] rfl) h
      · have h := itn c15 h
        refine lv_aload_n hx hb dX6_explore_89 rfl (lv_at hl 2 rfl) ?_
        refine lv_iload hx hb dX6_explore_90 (lv_at hl 4 rfl) ?_
        refine lv_iload_n hx hb dX6_explore_92 rfl (lv_at hl 3 rfl) ?_
        obtain ⟨r16, hr17, h⟩ := bnd h
        refine ro_z (runS (As := [.ref ((a_p1 0)), .int v4, .int v2]) (rest := []) cx hl.1 (ctX6_isThin l g a_p1 p1_told p1_lines p1_kinds p1_acts p1_cells p1_rows p1_sizes p1_rooms v4 v2 r16 hr17) kmX6_isThin ksX6_isThin lm_X6_43 ⟨rfl, rfl⟩ ⟨Nat.le_of_ble_eq_true rfl, Nat.le_of_ble_eq_true rfl⟩ (roS hG (hP.sub [2, 3, 4, 5, 6] rfl)) rfl rfl (Nat.le_of_ble_eq_true rfl) dX6_explore_93 ⟨Nat.le_of_ble_eq_true rfl, Nat.le_of_ble_eq_true rfl⟩) (fun hz18 => ?_)
        refine lv_if_eq (tgt := 110) hx hb dX6_explore_96 (by decide) (fun c19 => ?_) (fun c19 => ?_)
        · have h := itp c19 h
          exact w110 _ ih t_depths t_all t_stride v2 v4 _ _ hP hD hS _ (lv_sub hl [1, 2, 3, 4] rfl) h
        · have h := itn c19 h
          refine lv_aload_n hx hb dX6_explore_99 rfl (lv_at hl 1 rfl) ?_
          refine xa_get (C := RX6) (T := TX6) (N := 3) cx hG hP 0 rfl rfl uX6 0 (by decide) lf_X6_9 rfl dX6_explore_100 ?_
          refine lv_iload hx hb dX6_explore_103 (lv_at hl 4 rfl) ?_
          refine lv_iload hx hb dX6_explore_105 (lv_at hl 0 rfl) ?_
          refine lv_iconst (v := 1) hx hb dX6_explore_107 (by decide) ?_
          refine lv_iadd hx hb dX6_explore_108 ?_
          obtain ⟨hi20, h⟩ := chk_out h
          refine xw_iast (ws' := [((a_t 0), .inr (5, [.ref (a_t 1), .int t_all, .int t_stride])), ((a_t 1), .inl (g.2.2.1 0, 256, .inl (upd t_depths v4.toNatClampNeg (r13 + 1)))), ((a_p1 0), .inr (1, [.ref (a_p1 1), .ref (a_p1 2), .ref (a_p1 3), .ref (a_p1 4), .ref (a_p1 5), .int p1_told, .int p1_lines, .int p1_kinds, .int p1_acts])), ((a_p1 2), .inl (g.2.2.1 0, 144, .inl p1_cells)), ((a_p1 3), .inl (g.2.2.1 0, 31, .inl p1_rows)), ((a_p1 4), .inl (g.2.2.1 0, 31, .inl p1_sizes)), ((a_p1 5), .inl (g.2.2.1 0, 31, .inl p1_rooms))]) (k := v4.toNatClampNeg) cx hG hP hD hS 1 rfl hi20 rfl rfl dX6_explore_109 (fun H locs hP hD hS => ?_)
          have hG := hGk hS
          exact w110 _ ih (upd t_depths v4.toNatClampNeg (r13 + 1)) t_all t_stride v2 v4 _ _ hP hD hS _ (lv_sub hl [1, 2, 3, 4] rfl) h
  unfold fX6_explore at h
  refine lv_aload_n hx hb dX6_explore_0 rfl (lv_at hl 0 rfl) ?_
  refine lv_iload_n hx hb dX6_explore_1 rfl (lv_at hl 3 rfl) ?_
  refine xw_put (C := RX6) (T := TX6) (N := 3) (ty := .int) (v := .int v3) (ws' := [((a_t 0), .inr (5, [.ref (a_t 1), .int t_all, .int v3])), ((a_t 1), .inl (g.2.2.1 0, 256, .inl t_depths)), ((a_p1 0), .inr (1, [.ref (a_p1 1), .ref (a_p1 2), .ref (a_p1 3), .ref (a_p1 4), .ref (a_p1 5), .int p1_told, .int p1_lines, .int p1_kinds, .int p1_acts])), ((a_p1 2), .inl (g.2.2.1 0, 144, .inl p1_cells)), ((a_p1 3), .inl (g.2.2.1 0, 31, .inl p1_rows)), ((a_p1 4), .inl (g.2.2.1 0, 31, .inl p1_sizes)), ((a_p1 5), .inl (g.2.2.1 0, 31, .inl p1_rooms))]) cx hG hP hD hS 0 rfl rfl uX6 tyX6 tyX6_ok nmX6 2 (by decide) lf_X6_47 rfl (by decide +kernel) rfl rfl (Nat.le_of_ble_eq_true rfl) rfl dX6_explore_2 (fun H locs hP hD hS => ?_)
  have hG := hGk hS
  refine lv_aload_n hx hb dX6_explore_5 rfl (lv_at hl 0 rfl) ?_
  refine lv_aload_n hx hb dX6_explore_6 rfl (lv_at hl 1 rfl) ?_
  obtain ⟨r1, hr2, h⟩ := bnd h
  refine ro_i (runVN (As := []) (rest := [.ref ((a_t 0))]) hG cx hl.1 (ctX1_allPlies l g a_p1 p1_told p1_lines p1_kinds p1_acts p1_sizes r1 hr2) kmX1_allPlies kvX1_allPlies nm_81 ⟨rfl, rfl⟩ ⟨Nat.le_of_ble_eq_true rfl, Nat.le_of_ble_eq_true rfl⟩ (roV (q0 := 2) (ci := 1) hG (hP.sub [2, 5] rfl) hP rfl rfl) rfl rfl (Nat.le_of_ble_eq_true rfl) dX6_explore_7 ⟨Nat.le_of_ble_eq_true rfl, Nat.le_of_ble_eq_true rfl⟩) ?_
  refine lv_aload_n hx hb dX6_explore_10 rfl (lv_at hl 0 rfl) ?_
  refine xa_get (C := RX6) (T := TX6) (N := 3) cx hG hP 0 rfl rfl uX6 0 (by decide) lf_X6_9 rfl dX6_explore_11 ?_
  refine xa_len cx hG hP 1 rfl 0 rfl (v := 256) rfl dX6_explore_14 ?_
  refine lv_iconst (v := 1) hx hb dX6_explore_15 (by decide) ?_
  refine lv_isub hx hb dX6_explore_16 ?_
  refine xm_imin cx hl.1 lm_X6_51 ⟨ksJ9_min_7cf53, kmJ9_min_7cf53.2.1, kmJ9_min_7cf53.1⟩ (Nat.le_of_ble_eq_true rfl) (Nat.le_of_ble_eq_true rfl) (Nat.le_of_ble_eq_true rfl) (Nat.le_of_ble_eq_true rfl) dX6_explore_17 ?_
  refine xw_put (C := RX6) (T := TX6) (N := 3) (ty := .int) (v := .int (imin r1 (256 - 1))) (ws' := [((a_t 0), .inr (5, [.ref (a_t 1), .int (imin r1 (256 - 1)), .int v3])), ((a_t 1), .inl (g.2.2.1 0, 256, .inl t_depths)), ((a_p1 0), .inr (1, [.ref (a_p1 1), .ref (a_p1 2), .ref (a_p1 3), .ref (a_p1 4), .ref (a_p1 5), .int p1_told, .int p1_lines, .int p1_kinds, .int p1_acts])), ((a_p1 2), .inl (g.2.2.1 0, 144, .inl p1_cells)), ((a_p1 3), .inl (g.2.2.1 0, 31, .inl p1_rows)), ((a_p1 4), .inl (g.2.2.1 0, 31, .inl p1_sizes)), ((a_p1 5), .inl (g.2.2.1 0, 31, .inl p1_rooms))]) cx hG hP hD hS 0 rfl rfl uX6 tyX6 tyX6_ok nmX6 1 (by decide) lf_X6_57 rfl (by decide +kernel) rfl rfl (Nat.le_of_ble_eq_true rfl) rfl dX6_explore_20 (fun H locs hP hD hS => ?_)
  have hG := hGk hS
  refine lv_aload_n hx hb dX6_explore_23 rfl (lv_at hl 0 rfl) ?_
  refine xa_get (C := RX6) (T := TX6) (N := 3) cx hG hP 0 rfl rfl uX6 0 (by decide) lf_X6_9 rfl dX6_explore_24 ?_
  refine lv_iconst (v := -1) hx hb dX6_explore_27 (by decide) ?_
  obtain ⟨w4, hr3, h⟩ := bnd h
  refine rw_v (WN := fun u5 => [((a_t 0), .inr (5, [.ref (a_t 1), .int (imin r1 (256 - 1)), .int v3])), ((a_p1 0), .inr (1, [.ref (a_p1 1), .ref (a_p1 2), .ref (a_p1 3), .ref (a_p1 4), .ref (a_p1 5), .int p1_told, .int p1_lines, .int p1_kinds, .int p1_acts])), ((a_p1 2), .inl (g.2.2.1 0, 144, .inl p1_cells)), ((a_p1 3), .inl (g.2.2.1 0, 31, .inl p1_rows)), ((a_p1 4), .inl (g.2.2.1 0, 31, .inl p1_sizes)), ((a_p1 5), .inl (g.2.2.1 0, 31, .inl p1_rooms)), ((a_t 1), .inl (g.2.2.1 0, 256, .inl w4))]) (wr := [((a_t 0), .inr (5, [.ref (a_t 1), .int (imin r1 (256 - 1)), .int v3])), ((a_p1 0), .inr (1, [.ref (a_p1 1), .ref (a_p1 2), .ref (a_p1 3), .ref (a_p1 4), .ref (a_p1 5), .int p1_told, .int p1_lines, .int p1_kinds, .int p1_acts])), ((a_p1 2), .inl (g.2.2.1 0, 144, .inl p1_cells)), ((a_p1 3), .inl (g.2.2.1 0, 31, .inl p1_rows)), ((a_p1 4), .inl (g.2.2.1 0, 31, .inl p1_sizes)), ((a_p1 5), .inl (g.2.2.1 0, 31, .inl p1_rooms))]) (runS (As := [.ref ((a_t 1)), .int (-1)]) (rest := []) cx hl.1 (ctJ7_fill_53178 l g H.size (a_t 1) 256 t_depths (-1) w4 hr3) kmJ7_fill_53178 ksJ7_fill_53178 lm_X6_60 ⟨rfl, rfl⟩ ⟨Nat.le_of_ble_eq_true rfl, Nat.le_of_ble_eq_true rfl⟩ (rwS hG (hP.sub [1] rfl) (hD.sub [1] (by decide) rfl) hAb hb0 hS) rfl rfl (Nat.le_of_ble_eq_true rfl) dX6_explore_28 ⟨Nat.le_of_ble_eq_true rfl, Nat.le_of_ble_eq_true rfl⟩) hP hD hS hA [1] [0, 2, 3, 4, 5, 6] rfl rfl (by decide) (by decide) (fun _ => rfl) (fun u5 H locs hP hD hS => ?_)
  have hG := hGk hS
  refine lv_aload_n hx hb dX6_explore_31 rfl (lv_at hl 0 rfl) ?_
  refine xa_get (C := RX6) (T := TX6) (N := 3) cx hG hP 0 rfl rfl uX6 1 (by decide) lf_X6_57 rfl dX6_explore_32 ?_
  refine lv_if_lt (tgt := 50) hx hb dX6_explore_35 (by decide) (fun c6 => ?_) (fun c6 => ?_)
  · have h := itp c6 h
    exact hrt (fun _ => 0) _ _ w4 (imin r1 (256 - 1)) v3 _ _ dX6_explore_50 h (hP.sub [0, 6, 1, 2, 3, 4, 5] rfl) (hD.sub [0, 6, 1, 2, 3, 4, 5] (by decide) rfl) hS
  · have h := itn c6 h
    refine lv_aload_n hx hb dX6_explore_38 rfl (lv_at hl 1 rfl) ?_
    refine lv_aload_n hx hb dX6_explore_39 rfl (lv_at hl 0 rfl) ?_
    refine xa_get (C := RX6) (T := TX6) (N := 3) cx hG hP 0 rfl rfl uX6 1 (by decide) lf_X6_57 rfl dX6_explore_40 ?_
    refine lv_iload_n hx hb dX6_explore_43 rfl (lv_at hl 2 rfl) ?_
    obtain ⟨r7, hr8, h⟩ := bnd h
    refine ro_z (runS (As := [.ref ((a_p1 0)), .int (imin r1 (256 - 1)), .int v2]) (rest := []) cx hl.1 (ctX6_isThin l g a_p1 p1_told p1_lines p1_kinds p1_acts p1_cells p1_rows p1_sizes p1_rooms (imin r1 (256 - 1)) v2 r7 hr8) kmX6_isThin ksX6_isThin lm_X6_43 ⟨rfl, rfl⟩ ⟨Nat.le_of_ble_eq_true rfl, Nat.le_of_ble_eq_true rfl⟩ (roS hG (hP.sub [1, 2, 3, 4, 5] rfl)) rfl rfl (Nat.le_of_ble_eq_true rfl) dX6_explore_44 ⟨Nat.le_of_ble_eq_true rfl, Nat.le_of_ble_eq_true rfl⟩) (fun hz9 => ?_)
    refine lv_if_ne (tgt := 51) hx hb dX6_explore_47 (by decide) (fun c10 => ?_) (fun c10 => ?_)
    · have h := itn c10 h
      refine lv_aload_n hx hb dX6_explore_51 rfl (lv_at hl 0 rfl) ?_
      refine xa_get (C := RX6) (T := TX6) (N := 3) cx hG hP 0 rfl rfl uX6 0 (by decide) lf_X6_9 rfl dX6_explore_52 ?_
      refine lv_aload_n hx hb dX6_explore_55 rfl (lv_at hl 0 rfl) ?_
      refine xa_get (C := RX6) (T := TX6) (N := 3) cx hG hP 0 rfl rfl uX6 1 (by decide) lf_X6_57 rfl dX6_explore_56 ?_
      refine lv_iconst (v := 0) hx hb dX6_explore_59 (by decide) ?_
      obtain ⟨hi11, h⟩ := chk_out h
      refine xw_iast (ws' := [((a_t 0), .inr (5, [.ref (a_t 1), .int (imin r1 (256 - 1)), .int v3])), ((a_p1 0), .inr (1, [.ref (a_p1 1), .ref (a_p1 2), .ref (a_p1 3), .ref (a_p1 4), .ref (a_p1 5), .int p1_told, .int p1_lines, .int p1_kinds, .int p1_acts])), ((a_p1 2), .inl (g.2.2.1 0, 144, .inl p1_cells)), ((a_p1 3), .inl (g.2.2.1 0, 31, .inl p1_rows)), ((a_p1 4), .inl (g.2.2.1 0, 31, .inl p1_sizes)), ((a_p1 5), .inl (g.2.2.1 0, 31, .inl p1_rooms)), ((a_t 1), .inl (g.2.2.1 0, 256, .inl (upd w4 ((imin r1 (256 - 1)).toNatClampNeg) 0)))]) (k := ((imin r1 (256 - 1)).toNatClampNeg)) cx hG hP hD hS 6 rfl hi11 rfl rfl dX6_explore_60 (fun H locs hP hD hS => ?_)
      have hG := hGk hS
      refine lv_aload_n hx hb dX6_explore_61 rfl (lv_at hl 0 rfl) ?_
      refine xa_get (C := RX6) (T := TX6) (N := 3) cx hG hP 0 rfl rfl uX6 1 (by decide) lf_X6_57 rfl dX6_explore_62 ?_
      refine lv_iconst (v := 1) hx hb dX6_explore_65 (by decide) ?_
      refine lv_isub hx hb dX6_explore_66 ?_
      refine lv_istore (lv' := [(4, .int ((imin r1 (256 - 1)) - 1)), (0, .ref ((a_t 0))), (1, .ref ((a_p1 0))), (2, .int v2), (3, .int v3)]) hx hb dX6_explore_67 hl (by decide) rfl (fun ls hl => ?_)
      exact w69 FU (upd w4 ((imin r1 (256 - 1)).toNatClampNeg) 0) (imin r1 (256 - 1)) v3 v2 ((imin r1 (256 - 1)) - 1) _ _ (hP.sub [0, 6, 1, 2, 3, 4, 5] rfl) (hD.sub [0, 6, 1, 2, 3, 4, 5] (by decide) rfl) hS _ (lv_sub hl [1, 2, 3, 0] rfl) h
    · have h := itp c10 h
      exact hrt (fun _ => 0) _ _ w4 (imin r1 (256 - 1)) v3 _ _ dX6_explore_50 h (hP.sub [0, 6, 1, 2, 3, 4, 5] rfl) (hD.sub [0, 6, 1, 2, 3, 4, 5] (by decide) rfl) hS
-- X6_isNearerGoal
theorem dX6_isNearerGoal_0 : decode cX6_isNearerGoal 0 = .ok (.iload_n 2, 1) := by decide +kernel
theorem dX6_isNearerGoal_1 : decode cX6_isNearerGoal 1 = .ok (.invokestatic 30, 3) := by decide +kernel
theorem dX6_isNearerGoal_4 : decode cX6_isNearerGoal 4 = .ok (.iload_n 1, 1) := by decide +kernel
theorem dX6_isNearerGoal_5 : decode cX6_isNearerGoal 5 = .ok (.invokestatic 30, 3) := by decide +kernel
theorem dX6_isNearerGoal_8 : decode cX6_isNearerGoal 8 = .ok (.isub, 1) := by decide +kernel
theorem dX6_isNearerGoal_9 : decode cX6_isNearerGoal 9 = .ok (.istore_n 3, 1) := by decide +kernel
theorem dX6_isNearerGoal_10 : decode cX6_isNearerGoal 10 = .ok (.iload_n 3, 1) := by decide +kernel
theorem dX6_isNearerGoal_11 : decode cX6_isNearerGoal 11 = .ok (.ifCond .gt 20, 3) := by decide +kernel
theorem dX6_isNearerGoal_14 : decode cX6_isNearerGoal 14 = .ok (.iload_n 3, 1) := by decide +kernel
theorem dX6_isNearerGoal_15 : decode cX6_isNearerGoal 15 = .ok (.ifCond .ne 20, 3) := by decide +kernel
theorem dX6_isNearerGoal_18 : decode cX6_isNearerGoal 18 = .ok (.aload_n 0, 1) := by decide +kernel
theorem dX6_isNearerGoal_19 : decode cX6_isNearerGoal 19 = .ok (.iload_n 1, 1) := by decide +kernel
theorem dX6_isNearerGoal_20 : decode cX6_isNearerGoal 20 = .ok (.invokevirtual 73, 3) := by decide +kernel
theorem dX6_isNearerGoal_23 : decode cX6_isNearerGoal 23 = .ok (.aload_n 0, 1) := by decide +kernel
theorem dX6_isNearerGoal_24 : decode cX6_isNearerGoal 24 = .ok (.iload_n 2, 1) := by decide +kernel
theorem dX6_isNearerGoal_25 : decode cX6_isNearerGoal 25 = .ok (.invokevirtual 73, 3) := by decide +kernel
theorem dX6_isNearerGoal_28 : decode cX6_isNearerGoal 28 = .ok (.if_icmp .ge 7, 3) := by decide +kernel
theorem dX6_isNearerGoal_31 : decode cX6_isNearerGoal 31 = .ok (.iconst 1, 1) := by decide +kernel
theorem dX6_isNearerGoal_32 : decode cX6_isNearerGoal 32 = .ok (.goto 4, 3) := by decide +kernel
theorem dX6_isNearerGoal_35 : decode cX6_isNearerGoal 35 = .ok (.iconst 0, 1) := by decide +kernel
theorem dX6_isNearerGoal_36 : decode cX6_isNearerGoal 36 = .ok (.ireturn, 1) := by decide +kernel
noncomputable def fX6_isNearerGoal  (t_depths : Nat → Int32) (v1 : Int32) (v2 : Int32) : Option (Int32) := (if 0 < ((fJ6_bitCount_0f7a4 v2) - (fJ6_bitCount_0f7a4 v1)) then some (1) else (if ((fJ6_bitCount_0f7a4 v2) - (fJ6_bitCount_0f7a4 v1)) = 0 then (fX6_steps t_depths v1).bind fun r3 => (fX6_steps t_depths v2).bind fun r5 => (if r5 ≤ r3 then some (0) else some (1)) else some (0)))
set_option maxHeartbeats 4000000 in
set_option maxRecDepth 100000 in
theorem ctX6_isNearerGoal (l : Launch) (g : GT) (a_t : Nat → Nat) (t_all : Int32) (t_stride : Int32) (t_depths : Nat → Int32) (v1 : Int32) (v2 : Int32) (o : Int32) (h : fX6_isNearerGoal t_depths v1 v2 = some o) : Met l yX6_isNearerGoal (Cond.code yX6_isNearerGoal cX6_isNearerGoal 4 (some .boolean) :: Tw) ⟨1, 0, 0, 21⟩ (va_Pc [.ref ((a_t 0)), .int v1, .int v2] (roB g [((a_t 0), .inr (5, [.ref (a_t 1), .int t_all, .int t_stride])), ((a_t 1), .inl (g.2.2.1 0, 256, .inl t_depths))])) (vp_Si (fun x => x = o ∧ (x = 0 ∨ x = 1))) 0 0 (fun _ => False) := by
  refine ro_metz (by decide) (Nat.le_of_ble_eq_true rfl) (lv0 := [(0, .ref ((a_t 0))), (1, .int v1), (2, .int v2)]) rfl ?_
  intro p e s m args below meth c ls Q cx hret hG hP hl
  have hx := cx.1
  have hb := cx.2.1
  have hG0 := hG
  unfold fX6_isNearerGoal at h
  refine lv_iload_n hx hb dX6_isNearerGoal_0 rfl (lv_at hl 2 rfl) ?_
  refine ro_i (runS (As := [.int v2]) (rest := []) cx hl.1 (ctJ6_bitCount_0f7a4 l g v2 (fJ6_bitCount_0f7a4 v2) rfl) kmJ6_bitCount_0f7a4 ksJ6_bitCount_0f7a4 lm_X6_30 ⟨rfl, rfl⟩ ⟨Nat.le_of_ble_eq_true rfl, Nat.le_of_ble_eq_true rfl⟩ (roS hG (hP.sub [] rfl)) rfl rfl (Nat.le_of_ble_eq_true rfl) dX6_isNearerGoal_1 ⟨Nat.le_of_ble_eq_true rfl, Nat.le_of_ble_eq_true rfl⟩) ?_
  refine lv_iload_n hx hb dX6_isNearerGoal_4 rfl (lv_at hl 1 rfl) ?_
  refine ro_i (runS (As := [.int v1]) (rest := [.int (fJ6_bitCount_0f7a4 v2)]) cx hl.1 (ctJ6_bitCount_0f7a4 l g v1 (fJ6_bitCount_0f7a4 v1) rfl) kmJ6_bitCount_0f7a4 ksJ6_bitCount_0f7a4 lm_X6_30 ⟨rfl, rfl⟩ ⟨Nat.le_of_ble_eq_true rfl, Nat.le_of_ble_eq_true rfl⟩ (roS hG (hP.sub [] rfl)) rfl rfl (Nat.le_of_ble_eq_true rfl) dX6_isNearerGoal_5 ⟨Nat.le_of_ble_eq_true rfl, Nat.le_of_ble_eq_true rfl⟩) ?_
  refine lv_isub hx hb dX6_isNearerGoal_8 ?_
  refine lv_istore_n (lv' := [(3, .int ((fJ6_bitCount_0f7a4 v2) - (fJ6_bitCount_0f7a4 v1))), (0, .ref ((a_t 0))), (1, .int v1), (2, .int v2)]) hx hb dX6_isNearerGoal_9 rfl hl (by decide) rfl (fun ls hl => ?_)
  refine lv_iload_n hx hb dX6_isNearerGoal_10 rfl (lv_at hl 0 rfl) ?_
  refine lv_if_gt (tgt := 31) hx hb dX6_isNearerGoal_11 (by decide) (fun c1 => ?_) (fun c1 => ?_)
  · have h := itp c1 h
    refine lv_iconst (v := 1) hx hb dX6_isNearerGoal_31 (by decide) ?_
    refine lv_goto (tgt := 36) hx hb dX6_isNearerGoal_32 (by decide) ?_
    exact hret _ _ _ dX6_isNearerGoal_36 (by decide) (Option.some.inj h)
  · have h := itn c1 h
    refine lv_iload_n hx hb dX6_isNearerGoal_14 rfl (lv_at hl 0 rfl) ?_
    refine lv_if_ne (tgt := 35) hx hb dX6_isNearerGoal_15 (by decide) (fun c2 => ?_) (fun c2 => ?_)
    · have h := itn c2 h
      refine lv_iconst (v := 0) hx hb dX6_isNearerGoal_35 (by decide) ?_
      exact hret _ _ _ dX6_isNearerGoal_36 (by decide) (Option.some.inj h)
    · have h := itp c2 h
      refine lv_aload_n hx hb dX6_isNearerGoal_18 rfl (lv_at hl 1 rfl) ?_
      refine lv_iload_n hx hb dX6_isNearerGoal_19 rfl (lv_at hl 2 rfl) ?_
      obtain ⟨r3, hr4, h⟩ := bnd h
      refine ro_i (runV (As := [.int v1]) (rest := []) cx hl.1 (ctX6_steps l g a_t t_all t_stride t_depths v1 r3 hr4) kmX6_steps kvX6_steps lm_X6_73 ⟨rfl, rfl⟩ ⟨Nat.le_of_ble_eq_true rfl, Nat.le_of_ble_eq_true rfl⟩ (roV (q0 := 0) (ci := 5) hG (hP.sub [0, 1] rfl) hP rfl rfl) rfl rfl (Nat.le_of_ble_eq_true rfl) dX6_isNearerGoal_20 ⟨Nat.le_of_ble_eq_true rfl, Nat.le_of_ble_eq_true rfl⟩) ?_
      refine lv_aload_n hx hb dX6_isNearerGoal_23 rfl (lv_at hl 1 rfl) ?_
      refine lv_iload_n hx hb dX6_isNearerGoal_24 rfl (lv_at hl 3 rfl) ?_
      obtain ⟨r5, hr6, h⟩ := bnd h
      refine ro_i (runV (As := [.int v2]) (rest := [.int r3]) cx hl.1 (ctX6_steps l g a_t t_all t_stride t_depths v2 r5 hr6) kmX6_steps kvX6_steps lm_X6_73 ⟨rfl, rfl⟩ ⟨Nat.le_of_ble_eq_true rfl, Nat.le_of_ble_eq_true rfl⟩ (roV (q0 := 0) (ci := 5) hG (hP.sub [0, 1] rfl) hP rfl rfl) rfl rfl (Nat.le_of_ble_eq_true rfl) dX6_isNearerGoal_25 ⟨Nat.le_of_ble_eq_true rfl, Nat.le_of_ble_eq_true rfl⟩) ?_
      refine lv_icmp_ge (tgt := 35) hx hb dX6_isNearerGoal_28 (by decide) (fun c7 => ?_) (fun c7 => ?_)
      · have h := itp c7 h
        refine lv_iconst (v := 0) hx hb dX6_isNearerGoal_35 (by decide) ?_
        exact hret _ _ _ dX6_isNearerGoal_36 (by decide) (Option.some.inj h)
      · have h := itn c7 h
        refine lv_iconst (v := 1) hx hb dX6_isNearerGoal_31 (by decide) ?_
        refine lv_goto (tgt := 36) hx hb dX6_isNearerGoal_32 (by decide) ?_
        exact hret _ _ _ dX6_isNearerGoal_36 (by decide) (Option.some.inj h)
-- X6_goal
theorem dX6_goal_0 : decode cX6_goal 0 = .ok (.iconst (-1), 1) := by decide +kernel
theorem dX6_goal_1 : decode cX6_goal 1 = .ok (.istore_n 1, 1) := by decide +kernel
theorem dX6_goal_2 : decode cX6_goal 2 = .ok (.iconst 0, 1) := by decide +kernel
theorem dX6_goal_3 : decode cX6_goal 3 = .ok (.istore_n 2, 1) := by decide +kernel
theorem dX6_goal_4 : decode cX6_goal 4 = .ok (.iload_n 2, 1) := by decide +kernel
theorem dX6_goal_5 : decode cX6_goal 5 = .ok (.aload_n 0, 1) := by decide +kernel
theorem dX6_goal_6 : decode cX6_goal 6 = .ok (.getfield 57, 3) := by decide +kernel
theorem dX6_goal_9 : decode cX6_goal 9 = .ok (.if_icmp .gt 34, 3) := by decide +kernel
theorem dX6_goal_12 : decode cX6_goal 12 = .ok (.aload_n 0, 1) := by decide +kernel
theorem dX6_goal_13 : decode cX6_goal 13 = .ok (.iload_n 2, 1) := by decide +kernel
theorem dX6_goal_14 : decode cX6_goal 14 = .ok (.invokevirtual 73, 3) := by decide +kernel
theorem dX6_goal_17 : decode cX6_goal 17 = .ok (.iconst (-1), 1) := by decide +kernel
theorem dX6_goal_18 : decode cX6_goal 18 = .ok (.if_icmp .eq 19, 3) := by decide +kernel
theorem dX6_goal_21 : decode cX6_goal 21 = .ok (.iload_n 1, 1) := by decide +kernel
theorem dX6_goal_22 : decode cX6_goal 22 = .ok (.iconst (-1), 1) := by decide +kernel
theorem dX6_goal_23 : decode cX6_goal 23 = .ok (.if_icmp .eq 12, 3) := by decide +kernel
theorem dX6_goal_26 : decode cX6_goal 26 = .ok (.aload_n 0, 1) := by decide +kernel
theorem dX6_goal_27 : decode cX6_goal 27 = .ok (.iload_n 2, 1) := by decide +kernel
theorem dX6_goal_28 : decode cX6_goal 28 = .ok (.iload_n 1, 1) := by decide +kernel
theorem dX6_goal_29 : decode cX6_goal 29 = .ok (.invokevirtual 76, 3) := by decide +kernel
theorem dX6_goal_32 : decode cX6_goal 32 = .ok (.ifCond .eq 5, 3) := by decide +kernel
theorem dX6_goal_35 : decode cX6_goal 35 = .ok (.iload_n 2, 1) := by decide +kernel
theorem dX6_goal_36 : decode cX6_goal 36 = .ok (.istore_n 1, 1) := by decide +kernel
theorem dX6_goal_37 : decode cX6_goal 37 = .ok (.iinc 2 1, 3) := by decide +kernel
theorem dX6_goal_40 : decode cX6_goal 40 = .ok (.goto (-36), 3) := by decide +kernel
theorem dX6_goal_43 : decode cX6_goal 43 = .ok (.iload_n 1, 1) := by decide +kernel
theorem dX6_goal_44 : decode cX6_goal 44 = .ok (.ireturn, 1) := by decide +kernel
noncomputable def fX6_goal_37 (k4 : (Nat → Int32) → Int32 → Int32 → Int32 → Option (Int32)) (t_depths : Nat → Int32) (t_all : Int32) (v1 : Int32) (v2 : Int32) : Option (Int32) := k4 t_depths t_all v1 (v2 + 1)
noncomputable def fX6_goal_35 (k4 : (Nat → Int32) → Int32 → Int32 → Int32 → Option (Int32)) (t_depths : Nat → Int32) (t_all : Int32) (v2 : Int32) : Option (Int32) := fX6_goal_37 k4 t_depths t_all v2 v2
noncomputable def fX6_goal_4  : Nat → (Nat → Int32) → Int32 → Int32 → Int32 → Option (Int32)
  | 0, _, _, _, _ => none
  | n + 1, t_depths, t_all, v1, v2 => (if t_all < v2 then some v1 else (fX6_steps t_depths v2).bind fun r2 => (if r2 = (-1) then fX6_goal_37 (fX6_goal_4 n) t_depths t_all v1 v2 else (if v1 = (-1) then fX6_goal_35 (fX6_goal_4 n) t_depths t_all v2 else (fX6_isNearerGoal t_depths v2 v1).bind fun r6 => (if r6 = 0 then fX6_goal_37 (fX6_goal_4 n) t_depths t_all v1 v2 else fX6_goal_35 (fX6_goal_4 n) t_depths t_all v2))))
theorem fX6_goal_4_z  (t_depths : Nat → Int32) (t_all : Int32) (v1 : Int32) (v2 : Int32) : fX6_goal_4  0 t_depths t_all v1 v2 = none := rfl
theorem fX6_goal_4_s  (n : Nat) (t_depths : Nat → Int32) (t_all : Int32) (v1 : Int32) (v2 : Int32) : fX6_goal_4  (n + 1) t_depths t_all v1 v2 = (if t_all < v2 then some v1 else (fX6_steps t_depths v2).bind fun r2 => (if r2 = (-1) then fX6_goal_37 (fX6_goal_4 n) t_depths t_all v1 v2 else (if v1 = (-1) then fX6_goal_35 (fX6_goal_4 n) t_depths t_all v2 else (fX6_isNearerGoal t_depths v2 v1).bind fun r6 => (if r6 = 0 then fX6_goal_37 (fX6_goal_4 n) t_depths t_all v1 v2 else fX6_goal_35 (fX6_goal_4 n) t_depths t_all v2)))) := rfl
noncomputable def fX6_goal  (t_depths : Nat → Int32) (t_all : Int32) : Option (Int32) := fX6_goal_4 FU t_depths t_all (-1) 0
set_option maxHeartbeats 4000000 in
set_option maxRecDepth 100000 in
theorem ctX6_goal (l : Launch) (g : GT) (a_t : Nat → Nat) (t_all : Int32) (t_stride : Int32) (t_depths : Nat → Int32) (o : Int32) (h : fX6_goal t_depths t_all = some o) : Met l yX6_goal (Cond.code yX6_goal cX6_goal 3 (some .int) :: Tw) ⟨2, 0, 0, 44⟩ (va_Pc [.ref ((a_t 0))] (roB g [((a_t 0), .inr (5, [.ref (a_t 1), .int t_all, .int t_stride])), ((a_t 1), .inl (g.2.2.1 0, 256, .inl t_depths))])) (vp_Si (fun x => x = o)) 0 0 (fun _ => False) := by
  refine ro_meti (by decide) (Nat.le_of_ble_eq_true rfl) (lv0 := [(0, .ref ((a_t 0)))]) rfl ?_
  intro p e s m args below meth c ls Q cx hret hG hP hl
  have hx := cx.1
  have hb := cx.2.1
  have hG0 := hG
  have w37 : ∀ (k4 : (Nat → Int32) → Int32 → Int32 → Int32 → Option (Int32)) (hk4 : ∀ (v1 : Int32) (v2 : Int32) (ls : Array Slot), lv_has ls 3 [(0, .ref ((a_t 0))), (1, .int v1), (2, .int v2)] → k4 t_depths t_all v1 v2 = some o → W p l e ⟨2, 0, 0, 44⟩ s m args below meth c s.heap [] 0 0 Q (F0 m 4 ls [])) (v1 : Int32) (v2 : Int32) (ls : Array Slot), lv_has ls 3 [(0, .ref ((a_t 0))), (1, .int v1), (2, .int v2)] → fX6_goal_37 k4 t_depths t_all v1 v2 = some o → W p l e ⟨2, 0, 0, 44⟩ s m args below meth c s.heap [] 0 0 Q (F0 m 37 ls []) := by
    intro k4 hk4 v1 v2 ls hl h
    unfold fX6_goal_37 at h
    refine lv_iinc (v := v2 + 1) (lv' := [(2, .int (v2 + 1)), (0, .ref ((a_t 0))), (1, .int v1)]) hx hb dX6_goal_37 hl (k := 2) rfl rfl (by decide) rfl (fun ls hl => ?_)
    refine lv_goto (tgt := 4) hx hb dX6_goal_40 (by decide) ?_
    exact hk4 v1 (v2 + 1) _ (lv_sub hl [1, 2, 0] rfl) h
  have w35 : ∀ (k4 : (Nat → Int32) → Int32 → Int32 → Int32 → Option (Int32)) (hk4 : ∀ (v1 : Int32) (v2 : Int32) (ls : Array Slot), lv_has ls 3 [(0, .ref ((a_t 0))), (1, .int v1), (2, .int v2)] → k4 t_depths t_all v1 v2 = some o → W p l e ⟨2, 0, 0, 44⟩ s m args below meth c s.heap [] 0 0 Q (F0 m 4 ls [])) (v2 : Int32) (ls : Array Slot), lv_has ls 3 [(0, .ref ((a_t 0))), (2, .int v2)] → fX6_goal_35 k4 t_depths t_all v2 = some o → W p l e ⟨2, 0, 0, 44⟩ s m args below meth c s.heap [] 0 0 Q (F0 m 35 ls []) := by
    intro k4 hk4 v2 ls hl h
    unfold fX6_goal_35 at h
    refine lv_iload_n hx hb dX6_goal_35 rfl (lv_at hl 1 rfl) ?_
    refine lv_istore_n (lv' := [(1, .int v2), (0, .ref ((a_t 0))), (2, .int v2)]) hx hb dX6_goal_36 rfl hl (by decide) rfl (fun ls hl => ?_)
    exact w37 _ hk4 v2 v2 _ (lv_sub hl [1, 0, 2] rfl) h
  have w4 : ∀ (n : Nat) (v1 : Int32) (v2 : Int32) (ls : Array Slot), lv_has ls 3 [(0, .ref ((a_t 0))), (1, .int v1), (2, .int v2)] → fX6_goal_4  n t_depths t_all v1 v2 = some o → W p l e ⟨2, 0, 0, 44⟩ s m args below meth c s.heap [] 0 0 Q (F0 m 4 ls []) := by
    intro n
    induction n with
    | zero => intro v1 v2 ls hl h; cases (fX6_goal_4_z  t_depths t_all v1 v2).symm.trans h
    | succ n ih =>
    intro v1 v2 ls hl h
    have h := (fX6_goal_4_s  n t_depths t_all v1 v2).symm.trans h
    refine lv_iload_n hx hb dX6_goal_4 rfl (lv_at hl 2 rfl) ?_
    refine lv_aload_n hx hb dX6_goal_5 rfl (lv_at hl 0 rfl) ?_
    refine xa_get (C := RX6) (T := TX6) (N := 3) cx hG hP 0 rfl rfl uX6 1 (by decide) lf_X6_57 rfl dX6_goal_6 ?_
    refine lv_icmp_gt (tgt := 43) hx hb dX6_goal_9 (by decide) (fun c1 => ?_) (fun c1 => ?_)
    · have h := itp c1 h
      refine lv_iload_n hx hb dX6_goal_43 rfl (lv_at hl 1 rfl) ?_
      exact hret _ _ _ dX6_goal_44 (Option.some.inj h)
    · have h := itn c1 h
      refine lv_aload_n hx hb dX6_goal_12 rfl (lv_at hl 0 rfl) ?_
      refine lv_iload_n hx hb dX6_goal_13 rfl (lv_at hl 2 rfl) ?_
      obtain ⟨r2, hr3, h⟩ := bnd h
      refine ro_i (runV (As := [.int v2]) (rest := []) cx hl.1 (ctX6_steps l g a_t t_all t_stride t_depths v2 r2 hr3) kmX6_steps kvX6_steps lm_X6_73 ⟨rfl, rfl⟩ ⟨Nat.le_of_ble_eq_true rfl, Nat.le_of_ble_eq_true rfl⟩ (roV (q0 := 0) (ci := 5) hG (hP.sub [0, 1] rfl) hP rfl rfl) rfl rfl (Nat.le_of_ble_eq_true rfl) dX6_goal_14 ⟨Nat.le_of_ble_eq_true rfl, Nat.le_of_ble_eq_true rfl⟩) ?_
      refine lv_iconst (v := -1) hx hb dX6_goal_17 (by decide) ?_
      refine lv_icmp_eq (tgt := 37) hx hb dX6_goal_18 (by decide) (fun c4 => ?_) (fun c4 => ?_)
      · have h := itp c4 h
        exact w37 _ ih v1 v2 _ (lv_sub hl [0, 1, 2] rfl) h
      · have h := itn c4 h
        refine lv_iload_n hx hb dX6_goal_21 rfl (lv_at hl 1 rfl) ?_
        refine lv_iconst (v := -1) hx hb dX6_goal_22 (by decide) ?_
        refine lv_icmp_eq (tgt := 35) hx hb dX6_goal_23 (by decide) (fun c5 => ?_) (fun c5 => ?_)
        · have h := itp c5 h
          exact w35 _ ih v2 _ (lv_sub hl [0, 2] rfl) h
        · have h := itn c5 h
          refine lv_aload_n hx hb dX6_goal_26 rfl (lv_at hl 0 rfl) ?_
          refine lv_iload_n hx hb dX6_goal_27 rfl (lv_at hl 2 rfl) ?_
          refine lv_iload_n hx hb dX6_goal_28 rfl (lv_at hl 1 rfl) ?_
          obtain ⟨r6, hr7, h⟩ := bnd h
          refine ro_z (runV (As := [.int v2, .int v1]) (rest := []) cx hl.1 (ctX6_isNearerGoal l g a_t t_all t_stride t_depths v2 v1 r6 hr7) kmX6_isNearerGoal kvX6_isNearerGoal lm_X6_76 ⟨rfl, rfl⟩ ⟨Nat.le_of_ble_eq_true rfl, Nat.le_of_ble_eq_true rfl⟩ (roV (q0 := 0) (ci := 5) hG (hP.sub [0, 1] rfl) hP rfl rfl) rfl rfl (Nat.le_of_ble_eq_true rfl) dX6_goal_29 ⟨Nat.le_of_ble_eq_true rfl, Nat.le_of_ble_eq_true rfl⟩) (fun hz8 => ?_)
          refine lv_if_eq (tgt := 37) hx hb dX6_goal_32 (by decide) (fun c9 => ?_) (fun c9 => ?_)
          · have h := itp c9 h
            exact w37 _ ih v1 v2 _ (lv_sub hl [0, 1, 2] rfl) h
          · have h := itn c9 h
            exact w35 _ ih v2 _ (lv_sub hl [0, 2] rfl) h
  unfold fX6_goal at h
  refine lv_iconst (v := -1) hx hb dX6_goal_0 (by decide) ?_
  refine lv_istore_n (lv' := [(1, .int (-1)), (0, .ref ((a_t 0)))]) hx hb dX6_goal_1 rfl hl (by decide) rfl (fun ls hl => ?_)
  refine lv_iconst (v := 0) hx hb dX6_goal_2 (by decide) ?_
  refine lv_istore_n (lv' := [(2, .int (0)), (1, .int (-1)), (0, .ref ((a_t 0)))]) hx hb dX6_goal_3 rfl hl (by decide) rfl (fun ls hl => ?_)
  exact w4 FU (-1) 0 _ (lv_sub hl [2, 1, 0] rfl) h
-- X6_leastAhead
theorem dX6_leastAhead_0 : decode cX6_leastAhead 0 = .ok (.iload_n 1, 1) := by decide +kernel
theorem dX6_leastAhead_1 : decode cX6_leastAhead 1 = .ok (.iconst 1, 1) := by decide +kernel
theorem dX6_leastAhead_2 : decode cX6_leastAhead 2 = .ok (.iadd, 1) := by decide +kernel
theorem dX6_leastAhead_3 : decode cX6_leastAhead 3 = .ok (.istore_n 2, 1) := by decide +kernel
theorem dX6_leastAhead_4 : decode cX6_leastAhead 4 = .ok (.iload_n 2, 1) := by decide +kernel
theorem dX6_leastAhead_5 : decode cX6_leastAhead 5 = .ok (.aload_n 0, 1) := by decide +kernel
theorem dX6_leastAhead_6 : decode cX6_leastAhead 6 = .ok (.getfield 57, 3) := by decide +kernel
theorem dX6_leastAhead_9 : decode cX6_leastAhead 9 = .ok (.if_icmp .gt 35, 3) := by decide +kernel
theorem dX6_leastAhead_12 : decode cX6_leastAhead 12 = .ok (.aload_n 0, 1) := by decide +kernel
theorem dX6_leastAhead_13 : decode cX6_leastAhead 13 = .ok (.iload_n 2, 1) := by decide +kernel
theorem dX6_leastAhead_14 : decode cX6_leastAhead 14 = .ok (.iload_n 1, 1) := by decide +kernel
theorem dX6_leastAhead_15 : decode cX6_leastAhead 15 = .ok (.invokevirtual 69, 3) := by decide +kernel
theorem dX6_leastAhead_18 : decode cX6_leastAhead 18 = .ok (.ifCond .eq 20, 3) := by decide +kernel
theorem dX6_leastAhead_21 : decode cX6_leastAhead 21 = .ok (.aload_n 0, 1) := by decide +kernel
theorem dX6_leastAhead_22 : decode cX6_leastAhead 22 = .ok (.iload_n 2, 1) := by decide +kernel
theorem dX6_leastAhead_23 : decode cX6_leastAhead 23 = .ok (.invokevirtual 73, 3) := by decide +kernel
theorem dX6_leastAhead_26 : decode cX6_leastAhead 26 = .ok (.aload_n 0, 1) := by decide +kernel
theorem dX6_leastAhead_27 : decode cX6_leastAhead 27 = .ok (.iload_n 1, 1) := by decide +kernel
theorem dX6_leastAhead_28 : decode cX6_leastAhead 28 = .ok (.invokevirtual 73, 3) := by decide +kernel
theorem dX6_leastAhead_31 : decode cX6_leastAhead 31 = .ok (.iconst 1, 1) := by decide +kernel
theorem dX6_leastAhead_32 : decode cX6_leastAhead 32 = .ok (.isub, 1) := by decide +kernel
theorem dX6_leastAhead_33 : decode cX6_leastAhead 33 = .ok (.if_icmp .ne 5, 3) := by decide +kernel
theorem dX6_leastAhead_36 : decode cX6_leastAhead 36 = .ok (.iload_n 2, 1) := by decide +kernel
theorem dX6_leastAhead_37 : decode cX6_leastAhead 37 = .ok (.ireturn, 1) := by decide +kernel
theorem dX6_leastAhead_38 : decode cX6_leastAhead 38 = .ok (.iinc 2 1, 3) := by decide +kernel
theorem dX6_leastAhead_41 : decode cX6_leastAhead 41 = .ok (.goto (-37), 3) := by decide +kernel
theorem dX6_leastAhead_44 : decode cX6_leastAhead 44 = .ok (.aload_n 0, 1) := by decide +kernel
theorem dX6_leastAhead_45 : decode cX6_leastAhead 45 = .ok (.getfield 57, 3) := by decide +kernel
theorem dX6_leastAhead_48 : decode cX6_leastAhead 48 = .ok (.ireturn, 1) := by decide +kernel
noncomputable def fX6_leastAhead_38 (k4 : (Nat → Int32) → Int32 → Int32 → Int32 → Int32 → Option (Int32)) (t_depths : Nat → Int32) (t_all : Int32) (t_stride : Int32) (v1 : Int32) (v2 : Int32) : Option (Int32) := k4 t_depths t_all t_stride v1 (v2 + 1)
noncomputable def fX6_leastAhead_4  : Nat → (Nat → Int32) → Int32 → Int32 → Int32 → Int32 → Option (Int32)
  | 0, _, _, _, _, _ => none
  | n + 1, t_depths, t_all, t_stride, v1, v2 => (if t_all < v2 then some t_all else (fX6_leads t_depths t_stride v2 v1).bind fun r2 => (if r2 = 0 then fX6_leastAhead_38 (fX6_leastAhead_4 n) t_depths t_all t_stride v1 v2 else (fX6_steps t_depths v2).bind fun r6 => (fX6_steps t_depths v1).bind fun r8 => (if r6 = (r8 - 1) then some v2 else fX6_leastAhead_38 (fX6_leastAhead_4 n) t_depths t_all t_stride v1 v2)))
theorem fX6_leastAhead_4_z  (t_depths : Nat → Int32) (t_all : Int32) (t_stride : Int32) (v1 : Int32) (v2 : Int32) : fX6_leastAhead_4  0 t_depths t_all t_stride v1 v2 = none := rfl
theorem fX6_leastAhead_4_s  (n : Nat) (t_depths : Nat → Int32) (t_all : Int32) (t_stride : Int32) (v1 : Int32) (v2 : Int32) : fX6_leastAhead_4  (n + 1) t_depths t_all t_stride v1 v2 = (if t_all < v2 then some t_all else (fX6_leads t_depths t_stride v2 v1).bind fun r2 => (if r2 = 0 then fX6_leastAhead_38 (fX6_leastAhead_4 n) t_depths t_all t_stride v1 v2 else (fX6_steps t_depths v2).bind fun r6 => (fX6_steps t_depths v1).bind fun r8 => (if r6 = (r8 - 1) then some v2 else fX6_leastAhead_38 (fX6_leastAhead_4 n) t_depths t_all t_stride v1 v2))) := rfl
noncomputable def fX6_leastAhead  (t_depths : Nat → Int32) (t_all : Int32) (t_stride : Int32) (v1 : Int32) : Option (Int32) := fX6_leastAhead_4 FU t_depths t_all t_stride v1 (v1 + 1)
set_option maxHeartbeats 4000000 in
set_option maxRecDepth 100000 in
theorem ctX6_leastAhead (l : Launch) (g : GT) (a_t : Nat → Nat) (t_all : Int32) (t_stride : Int32) (t_depths : Nat → Int32) (v1 : Int32) (o : Int32) (h : fX6_leastAhead t_depths t_all t_stride v1 = some o) : Met l yX6_leastAhead (Cond.code yX6_leastAhead cX6_leastAhead 3 (some .int) :: Tw) ⟨2, 0, 0, 43⟩ (va_Pc [.ref ((a_t 0)), .int v1] (roB g [((a_t 0), .inr (5, [.ref (a_t 1), .int t_all, .int t_stride])), ((a_t 1), .inl (g.2.2.1 0, 256, .inl t_depths))])) (vp_Si (fun x => x = o)) 0 0 (fun _ => False) := by
  refine ro_meti (by decide) (Nat.le_of_ble_eq_true rfl) (lv0 := [(0, .ref ((a_t 0))), (1, .int v1)]) rfl ?_
  intro p e s m args below meth c ls Q cx hret hG hP hl
  have hx := cx.1
  have hb := cx.2.1
  have hG0 := hG
  have w38 : ∀ (k4 : (Nat → Int32) → Int32 → Int32 → Int32 → Int32 → Option (Int32)) (hk4 : ∀ (v1 : Int32) (v2 : Int32) (ls : Array Slot), lv_has ls 3 [(0, .ref ((a_t 0))), (1, .int v1), (2, .int v2)] → k4 t_depths t_all t_stride v1 v2 = some o → W p l e ⟨2, 0, 0, 43⟩ s m args below meth c s.heap [] 0 0 Q (F0 m 4 ls [])) (v1 : Int32) (v2 : Int32) (ls : Array Slot), lv_has ls 3 [(0, .ref ((a_t 0))), (1, .int v1), (2, .int v2)] → fX6_leastAhead_38 k4 t_depths t_all t_stride v1 v2 = some o → W p l e ⟨2, 0, 0, 43⟩ s m args below meth c s.heap [] 0 0 Q (F0 m 38 ls []) := by
    intro k4 hk4 v1 v2 ls hl h
    unfold fX6_leastAhead_38 at h
    refine lv_iinc (v := v2 + 1) (lv' := [(2, .int (v2 + 1)), (0, .ref ((a_t 0))), (1, .int v1)]) hx hb dX6_leastAhead_38 hl (k := 2) rfl rfl (by decide) rfl (fun ls hl => ?_)
    refine lv_goto (tgt := 4) hx hb dX6_leastAhead_41 (by decide) ?_
    exact hk4 v1 (v2 + 1) _ (lv_sub hl [1, 2, 0] rfl) h
  have w4 : ∀ (n : Nat) (v1 : Int32) (v2 : Int32) (ls : Array Slot), lv_has ls 3 [(0, .ref ((a_t 0))), (1, .int v1), (2, .int v2)] → fX6_leastAhead_4  n t_depths t_all t_stride v1 v2 = some o → W p l e ⟨2, 0, 0, 43⟩ s m args below meth c s.heap [] 0 0 Q (F0 m 4 ls []) := by
    intro n
    induction n with
    | zero => intro v1 v2 ls hl h; cases (fX6_leastAhead_4_z  t_depths t_all t_stride v1 v2).symm.trans h
    | succ n ih =>
    intro v1 v2 ls hl h
    have h := (fX6_leastAhead_4_s  n t_depths t_all t_stride v1 v2).symm.trans h
    refine lv_iload_n hx hb dX6_leastAhead_4 rfl (lv_at hl 2 rfl) ?_
    refine lv_aload_n hx hb dX6_leastAhead_5 rfl (lv_at hl 0 rfl) ?_
    refine xa_get (C := RX6) (T := TX6) (N := 3) cx hG hP 0 rfl rfl uX6 1 (by decide) lf_X6_57 rfl dX6_leastAhead_6 ?_
    refine lv_icmp_gt (tgt := 44) hx hb dX6_leastAhead_9 (by decide) (fun c1 => ?_) (fun c1 => ?_)
    · have h := itp c1 h
      refine lv_aload_n hx hb dX6_leastAhead_44 rfl (lv_at hl 0 rfl) ?_
      refine xa_get (C := RX6) (T := TX6) (N := 3) cx hG hP 0 rfl rfl uX6 1 (by decide) lf_X6_57 rfl dX6_leastAhead_45 ?_
      exact hret _ _ _ dX6_leastAhead_48 (Option.some.inj h)
    · have h := itn c1 h
      refine lv_aload_n hx hb dX6_leastAhead_12 rfl (lv_at hl 0 rfl) ?_
      refine lv_iload_n hx hb dX6_leastAhead_13 rfl (lv_at hl 2 rfl) ?_
      refine lv_iload_n hx hb dX6_leastAhead_14 rfl (lv_at hl 1 rfl) ?_
      obtain ⟨r2, hr3, h⟩ := bnd h
      refine ro_z (runV (As := [.int v2, .int v1]) (rest := []) cx hl.1 (ctX6_leads l g a_t t_all t_stride t_depths v2 v1 r2 hr3) kmX6_leads kvX6_leads lm_X6_69 ⟨rfl, rfl⟩ ⟨Nat.le_of_ble_eq_true rfl, Nat.le_of_ble_eq_true rfl⟩ (roV (q0 := 0) (ci := 5) hG (hP.sub [0, 1] rfl) hP rfl rfl) rfl rfl (Nat.le_of_ble_eq_true rfl) dX6_leastAhead_15 ⟨Nat.le_of_ble_eq_true rfl, Nat.le_of_ble_eq_true rfl⟩) (fun hz4 => ?_)
      refine lv_if_eq (tgt := 38) hx hb dX6_leastAhead_18 (by decide) (fun c5 => ?_) (fun c5 => ?_)
      · have h := itp c5 h
        exact w38 _ ih v1 v2 _ (lv_sub hl [0, 1, 2] rfl) h
      · have h := itn c5 h
        refine lv_aload_n hx hb dX6_leastAhead_21 rfl (lv_at hl 0 rfl) ?_
        refine lv_iload_n hx hb dX6_leastAhead_22 rfl (lv_at hl 2 rfl) ?_
        obtain ⟨r6, hr7, h⟩ := bnd h
        refine ro_i (runV (As := [.int v2]) (rest := []) cx hl.1 (ctX6_steps l g a_t t_all t_stride t_depths v2 r6 hr7) kmX6_steps kvX6_steps lm_X6_73 ⟨rfl, rfl⟩ ⟨Nat.le_of_ble_eq_true rfl, Nat.le_of_ble_eq_true rfl⟩ (roV (q0 := 0) (ci := 5) hG (hP.sub [0, 1] rfl) hP rfl rfl) rfl rfl (Nat.le_of_ble_eq_true rfl) dX6_leastAhead_23 ⟨Nat.le_of_ble_eq_true rfl, Nat.le_of_ble_eq_true rfl⟩) ?_
        refine lv_aload_n hx hb dX6_leastAhead_26 rfl (lv_at hl 0 rfl) ?_
        refine lv_iload_n hx hb dX6_leastAhead_27 rfl (lv_at hl 1 rfl) ?_
        obtain ⟨r8, hr9, h⟩ := bnd h
        refine ro_i (runV (As := [.int v1]) (rest := [.int r6]) cx hl.1 (ctX6_steps l g a_t t_all t_stride t_depths v1 r8 hr9) kmX6_steps kvX6_steps lm_X6_73 ⟨rfl, rfl⟩ ⟨Nat.le_of_ble_eq_true rfl, Nat.le_of_ble_eq_true rfl⟩ (roV (q0 := 0) (ci := 5) hG (hP.sub [0, 1] rfl) hP rfl rfl) rfl rfl (Nat.le_of_ble_eq_true rfl) dX6_leastAhead_28 ⟨Nat.le_of_ble_eq_true rfl, Nat.le_of_ble_eq_true rfl⟩) ?_
        refine lv_iconst (v := 1) hx hb dX6_leastAhead_31 (by decide) ?_
        refine lv_isub hx hb dX6_leastAhead_32 ?_
        refine lv_icmp_ne (tgt := 38) hx hb dX6_leastAhead_33 (by decide) (fun c10 => ?_) (fun c10 => ?_)
        · have h := itn c10 h
          exact w38 _ ih v1 v2 _ (lv_sub hl [0, 1, 2] rfl) h
        · have h := itp c10 h
          refine lv_iload_n hx hb dX6_leastAhead_36 rfl (lv_at hl 2 rfl) ?_
          exact hret _ _ _ dX6_leastAhead_37 (Option.some.inj h)
  unfold fX6_leastAhead at h
  refine lv_iload_n hx hb dX6_leastAhead_0 rfl (lv_at hl 1 rfl) ?_
  refine lv_iconst (v := 1) hx hb dX6_leastAhead_1 (by decide) ?_
  refine lv_iadd hx hb dX6_leastAhead_2 ?_
  refine lv_istore_n (lv' := [(2, .int (v1 + 1)), (0, .ref ((a_t 0))), (1, .int v1)]) hx hb dX6_leastAhead_3 rfl hl (by decide) rfl (fun ls hl => ?_)
  exact w4 FU v1 (v1 + 1) _ (lv_sub hl [1, 2, 0] rfl) h
-- X6_onTheWay
theorem dX6_onTheWay_0 : decode cX6_onTheWay 0 = .ok (.aload_n 0, 1) := by decide +kernel
theorem dX6_onTheWay_1 : decode cX6_onTheWay 1 = .ok (.invokevirtual 79, 3) := by decide +kernel
theorem dX6_onTheWay_4 : decode cX6_onTheWay 4 = .ok (.istore_n 2, 1) := by decide +kernel
theorem dX6_onTheWay_5 : decode cX6_onTheWay 5 = .ok (.iload_n 2, 1) := by decide +kernel
theorem dX6_onTheWay_6 : decode cX6_onTheWay 6 = .ok (.iconst (-1), 1) := by decide +kernel
theorem dX6_onTheWay_7 : decode cX6_onTheWay 7 = .ok (.if_icmp .eq 12, 3) := by decide +kernel
theorem dX6_onTheWay_10 : decode cX6_onTheWay 10 = .ok (.iload_n 1, 1) := by decide +kernel
theorem dX6_onTheWay_11 : decode cX6_onTheWay 11 = .ok (.aload_n 0, 1) := by decide +kernel
theorem dX6_onTheWay_12 : decode cX6_onTheWay 12 = .ok (.iload_n 2, 1) := by decide +kernel
theorem dX6_onTheWay_13 : decode cX6_onTheWay 13 = .ok (.invokevirtual 73, 3) := by decide +kernel
theorem dX6_onTheWay_16 : decode cX6_onTheWay 16 = .ok (.if_icmp .le 5, 3) := by decide +kernel
theorem dX6_onTheWay_19 : decode cX6_onTheWay 19 = .ok (.iconst (-1), 1) := by decide +kernel
theorem dX6_onTheWay_20 : decode cX6_onTheWay 20 = .ok (.ireturn, 1) := by decide +kernel
theorem dX6_onTheWay_21 : decode cX6_onTheWay 21 = .ok (.aload_n 0, 1) := by decide +kernel
theorem dX6_onTheWay_22 : decode cX6_onTheWay 22 = .ok (.iload_n 2, 1) := by decide +kernel
theorem dX6_onTheWay_23 : decode cX6_onTheWay 23 = .ok (.invokevirtual 73, 3) := by decide +kernel
theorem dX6_onTheWay_26 : decode cX6_onTheWay 26 = .ok (.istore_n 3, 1) := by decide +kernel
theorem dX6_onTheWay_27 : decode cX6_onTheWay 27 = .ok (.iload_n 3, 1) := by decide +kernel
theorem dX6_onTheWay_28 : decode cX6_onTheWay 28 = .ok (.iload_n 1, 1) := by decide +kernel
theorem dX6_onTheWay_29 : decode cX6_onTheWay 29 = .ok (.if_icmp .le 15, 3) := by decide +kernel
theorem dX6_onTheWay_32 : decode cX6_onTheWay 32 = .ok (.aload_n 0, 1) := by decide +kernel
theorem dX6_onTheWay_33 : decode cX6_onTheWay 33 = .ok (.iload_n 2, 1) := by decide +kernel
theorem dX6_onTheWay_34 : decode cX6_onTheWay 34 = .ok (.invokevirtual 82, 3) := by decide +kernel
theorem dX6_onTheWay_37 : decode cX6_onTheWay 37 = .ok (.istore_n 2, 1) := by decide +kernel
theorem dX6_onTheWay_38 : decode cX6_onTheWay 38 = .ok (.iinc 3 (-1), 3) := by decide +kernel
theorem dX6_onTheWay_41 : decode cX6_onTheWay 41 = .ok (.goto (-14), 3) := by decide +kernel
theorem dX6_onTheWay_44 : decode cX6_onTheWay 44 = .ok (.iload_n 2, 1) := by decide +kernel
theorem dX6_onTheWay_45 : decode cX6_onTheWay 45 = .ok (.ireturn, 1) := by decide +kernel
noncomputable def fX6_onTheWay_27  : Nat → (Nat → Int32) → Int32 → Int32 → Int32 → Int32 → Int32 → Option (Int32)
  | 0, _, _, _, _, _, _ => none
  | n + 1, t_depths, t_all, t_stride, v1, v2, v3 => (if v3 ≤ v1 then some v2 else (fX6_leastAhead t_depths t_all t_stride v2).bind fun r10 => fX6_onTheWay_27 n t_depths t_all t_stride v1 r10 (v3 + (-1)))
theorem fX6_onTheWay_27_z  (t_depths : Nat → Int32) (t_all : Int32) (t_stride : Int32) (v1 : Int32) (v2 : Int32) (v3 : Int32) : fX6_onTheWay_27  0 t_depths t_all t_stride v1 v2 v3 = none := rfl
theorem fX6_onTheWay_27_s  (n : Nat) (t_depths : Nat → Int32) (t_all : Int32) (t_stride : Int32) (v1 : Int32) (v2 : Int32) (v3 : Int32) : fX6_onTheWay_27  (n + 1) t_depths t_all t_stride v1 v2 v3 = (if v3 ≤ v1 then some v2 else (fX6_leastAhead t_depths t_all t_stride v2).bind fun r10 => fX6_onTheWay_27 n t_depths t_all t_stride v1 r10 (v3 + (-1))) := rfl
noncomputable def fX6_onTheWay  (t_depths : Nat → Int32) (t_all : Int32) (t_stride : Int32) (v1 : Int32) : Option (Int32) := (fX6_goal t_depths t_all).bind fun r1 => (if r1 = (-1) then some (-1) else (fX6_steps t_depths r1).bind fun r4 => (if v1 ≤ r4 then (fX6_steps t_depths r1).bind fun r7 => fX6_onTheWay_27 FU t_depths t_all t_stride v1 r1 r7 else some (-1)))
set_option maxHeartbeats 4000000 in
set_option maxRecDepth 100000 in
theorem ctX6_onTheWay (l : Launch) (g : GT) (a_t : Nat → Nat) (t_all : Int32) (t_stride : Int32) (t_depths : Nat → Int32) (v1 : Int32) (o : Int32) (h : fX6_onTheWay t_depths t_all t_stride v1 = some o) : Met l yX6_onTheWay (Cond.code yX6_onTheWay cX6_onTheWay 4 (some .int) :: Tw) ⟨3, 0, 0, 66⟩ (va_Pc [.ref ((a_t 0)), .int v1] (roB g [((a_t 0), .inr (5, [.ref (a_t 1), .int t_all, .int t_stride])), ((a_t 1), .inl (g.2.2.1 0, 256, .inl t_depths))])) (vp_Si (fun x => x = o)) 0 0 (fun _ => False) := by
  refine ro_meti (by decide) (Nat.le_of_ble_eq_true rfl) (lv0 := [(0, .ref ((a_t 0))), (1, .int v1)]) rfl ?_
  intro p e s m args below meth c ls Q cx hret hG hP hl
  have hx := cx.1
  have hb := cx.2.1
  have hG0 := hG
  have w27 : ∀ (n : Nat) (v1 : Int32) (v2 : Int32) (v3 : Int32) (ls : Array Slot), lv_has ls 4 [(0, .ref ((a_t 0))), (1, .int v1), (2, .int v2), (3, .int v3)] → fX6_onTheWay_27  n t_depths t_all t_stride v1 v2 v3 = some o → W p l e ⟨3, 0, 0, 66⟩ s m args below meth c s.heap [] 0 0 Q (F0 m 27 ls []) := by
    intro n
    induction n with
    | zero => intro v1 v2 v3 ls hl h; cases (fX6_onTheWay_27_z  t_depths t_all t_stride v1 v2 v3).symm.trans h
    | succ n ih =>
    intro v1 v2 v3 ls hl h
    have h := (fX6_onTheWay_27_s  n t_depths t_all t_stride v1 v2 v3).symm.trans h
    refine lv_iload_n hx hb dX6_onTheWay_27 rfl (lv_at hl 3 rfl) ?_
    refine lv_iload_n hx hb dX6_onTheWay_28 rfl (lv_at hl 1 rfl) ?_
    refine lv_icmp_le (tgt := 44) hx hb dX6_onTheWay_29 (by decide) (fun c9 => ?_) (fun c9 => ?_)
    · have h := itp c9 h
      refine lv_iload_n hx hb dX6_onTheWay_44 rfl (lv_at hl 2 rfl) ?_
      exact hret _ _ _ dX6_onTheWay_45 (Option.some.inj h)
    · have h := itn c9 h
      refine lv_aload_n hx hb dX6_onTheWay_32 rfl (lv_at hl 0 rfl) ?_
      refine lv_iload_n hx hb dX6_onTheWay_33 rfl (lv_at hl 2 rfl) ?_
      obtain ⟨r10, hr11, h⟩ := bnd h
      refine ro_i (runV (As := [.int v2]) (rest := []) cx hl.1 (ctX6_leastAhead l g a_t t_all t_stride t_depths v2 r10 hr11) kmX6_leastAhead kvX6_leastAhead lm_X6_82 ⟨rfl, rfl⟩ ⟨Nat.le_of_ble_eq_true rfl, Nat.le_of_ble_eq_true rfl⟩ (roV (q0 := 0) (ci := 5) hG (hP.sub [0, 1] rfl) hP rfl rfl) rfl rfl (Nat.le_of_ble_eq_true rfl) dX6_onTheWay_34 ⟨Nat.le_of_ble_eq_true rfl, Nat.le_of_ble_eq_true rfl⟩) ?_
      refine lv_istore_n (lv' := [(2, .int r10), (0, .ref ((a_t 0))), (1, .int v1), (3, .int v3)]) hx hb dX6_onTheWay_37 rfl hl (by decide) rfl (fun ls hl => ?_)
      refine lv_iinc (v := v3 + (-1)) (lv' := [(3, .int (v3 + (-1))), (2, .int r10), (0, .ref ((a_t 0))), (1, .int v1)]) hx hb dX6_onTheWay_38 hl (k := 3) rfl rfl (by decide) rfl (fun ls hl => ?_)
      refine lv_goto (tgt := 27) hx hb dX6_onTheWay_41 (by decide) ?_
      exact ih v1 r10 (v3 + (-1)) _ (lv_sub hl [2, 3, 1, 0] rfl) h
  unfold fX6_onTheWay at h
  refine lv_aload_n hx hb dX6_onTheWay_0 rfl (lv_at hl 0 rfl) ?_
  obtain ⟨r1, hr2, h⟩ := bnd h
  refine ro_i (runV (As := []) (rest := []) cx hl.1 (ctX6_goal l g a_t t_all t_stride t_depths r1 hr2) kmX6_goal kvX6_goal lm_X6_79 ⟨rfl, rfl⟩ ⟨Nat.le_of_ble_eq_true rfl, Nat.le_of_ble_eq_true rfl⟩ (roV (q0 := 0) (ci := 5) hG (hP.sub [0, 1] rfl) hP rfl rfl) rfl rfl (Nat.le_of_ble_eq_true rfl) dX6_onTheWay_1 ⟨Nat.le_of_ble_eq_true rfl, Nat.le_of_ble_eq_true rfl⟩) ?_
  refine lv_istore_n (lv' := [(2, .int r1), (0, .ref ((a_t 0))), (1, .int v1)]) hx hb dX6_onTheWay_4 rfl hl (by decide) rfl (fun ls hl => ?_)
  refine lv_iload_n hx hb dX6_onTheWay_5 rfl (lv_at hl 0 rfl) ?_
  refine lv_iconst (v := -1) hx hb dX6_onTheWay_6 (by decide) ?_
  refine lv_icmp_eq (tgt := 19) hx hb dX6_onTheWay_7 (by decide) (fun c3 => ?_) (fun c3 => ?_)
  · have h := itp c3 h
    refine lv_iconst (v := -1) hx hb dX6_onTheWay_19 (by decide) ?_
    exact hret _ _ _ dX6_onTheWay_20 (Option.some.inj h)
  · have h := itn c3 h
    refine lv_iload_n hx hb dX6_onTheWay_10 rfl (lv_at hl 2 rfl) ?_
    refine lv_aload_n hx hb dX6_onTheWay_11 rfl (lv_at hl 1 rfl) ?_
    refine lv_iload_n hx hb dX6_onTheWay_12 rfl (lv_at hl 0 rfl) ?_
    obtain ⟨r4, hr5, h⟩ := bnd h
    refine ro_i (runV (As := [.int r1]) (rest := [.int v1]) cx hl.1 (ctX6_steps l g a_t t_all t_stride t_depths r1 r4 hr5) kmX6_steps kvX6_steps lm_X6_73 ⟨rfl, rfl⟩ ⟨Nat.le_of_ble_eq_true rfl, Nat.le_of_ble_eq_true rfl⟩ (roV (q0 := 0) (ci := 5) hG (hP.sub [0, 1] rfl) hP rfl rfl) rfl rfl (Nat.le_of_ble_eq_true rfl) dX6_onTheWay_13 ⟨Nat.le_of_ble_eq_true rfl, Nat.le_of_ble_eq_true rfl⟩) ?_
    refine lv_icmp_le (tgt := 21) hx hb dX6_onTheWay_16 (by decide) (fun c6 => ?_) (fun c6 => ?_)
    · have h := itp c6 h
      refine lv_aload_n hx hb dX6_onTheWay_21 rfl (lv_at hl 1 rfl) ?_
      refine lv_iload_n hx hb dX6_onTheWay_22 rfl (lv_at hl 0 rfl) ?_
      obtain ⟨r7, hr8, h⟩ := bnd h
      refine ro_i (runV (As := [.int r1]) (rest := []) cx hl.1 (ctX6_steps l g a_t t_all t_stride t_depths r1 r7 hr8) kmX6_steps kvX6_steps lm_X6_73 ⟨rfl, rfl⟩ ⟨Nat.le_of_ble_eq_true rfl, Nat.le_of_ble_eq_true rfl⟩ (roV (q0 := 0) (ci := 5) hG (hP.sub [0, 1] rfl) hP rfl rfl) rfl rfl (Nat.le_of_ble_eq_true rfl) dX6_onTheWay_23 ⟨Nat.le_of_ble_eq_true rfl, Nat.le_of_ble_eq_true rfl⟩) ?_
      refine lv_istore_n (lv' := [(3, .int r7), (2, .int r1), (0, .ref ((a_t 0))), (1, .int v1)]) hx hb dX6_onTheWay_26 rfl hl (by decide) rfl (fun ls hl => ?_)
      exact w27 FU v1 r1 r7 _ (lv_sub hl [2, 3, 1, 0] rfl) h
    · have h := itn c6 h
      refine lv_iconst (v := -1) hx hb dX6_onTheWay_19 (by decide) ?_
      exact hret _ _ _ dX6_onTheWay_20 (Option.some.inj h)
-- X7_feed
theorem dX7_feed_0 : decode cX7_feed 0 = .ok (.aload_n 0, 1) := by decide +kernel
theorem dX7_feed_1 : decode cX7_feed 1 = .ok (.getfield 12, 3) := by decide +kernel
theorem dX7_feed_4 : decode cX7_feed 4 = .ok (.getfield 59, 3) := by decide +kernel
theorem dX7_feed_7 : decode cX7_feed 7 = .ok (.bipush 20, 2) := by decide +kernel
theorem dX7_feed_9 : decode cX7_feed 9 = .ok (.iadd, 1) := by decide +kernel
theorem dX7_feed_10 : decode cX7_feed 10 = .ok (.sipush 600, 3) := by decide +kernel
theorem dX7_feed_13 : decode cX7_feed 13 = .ok (.if_icmp .le 5, 3) := by decide +kernel
theorem dX7_feed_16 : decode cX7_feed 16 = .ok (.iconst (-1), 1) := by decide +kernel
theorem dX7_feed_17 : decode cX7_feed 17 = .ok (.ireturn, 1) := by decide +kernel
theorem dX7_feed_18 : decode cX7_feed 18 = .ok (.aload_n 0, 1) := by decide +kernel
theorem dX7_feed_19 : decode cX7_feed 19 = .ok (.getfield 12, 3) := by decide +kernel
theorem dX7_feed_22 : decode cX7_feed 22 = .ok (.iload_n 1, 1) := by decide +kernel
theorem dX7_feed_23 : decode cX7_feed 23 = .ok (.invokevirtual 63, 3) := by decide +kernel
theorem dX7_feed_26 : decode cX7_feed 26 = .ok (.aload_n 0, 1) := by decide +kernel
theorem dX7_feed_27 : decode cX7_feed 27 = .ok (.getfield 12, 3) := by decide +kernel
theorem dX7_feed_30 : decode cX7_feed 30 = .ok (.iload_n 2, 1) := by decide +kernel
theorem dX7_feed_31 : decode cX7_feed 31 = .ok (.invokevirtual 63, 3) := by decide +kernel
theorem dX7_feed_34 : decode cX7_feed 34 = .ok (.aload_n 0, 1) := by decide +kernel
theorem dX7_feed_35 : decode cX7_feed 35 = .ok (.getfield 12, 3) := by decide +kernel
theorem dX7_feed_38 : decode cX7_feed 38 = .ok (.iload_n 3, 1) := by decide +kernel
theorem dX7_feed_39 : decode cX7_feed 39 = .ok (.invokevirtual 63, 3) := by decide +kernel
theorem dX7_feed_42 : decode cX7_feed 42 = .ok (.aload_n 0, 1) := by decide +kernel
theorem dX7_feed_43 : decode cX7_feed 43 = .ok (.getfield 12, 3) := by decide +kernel
theorem dX7_feed_46 : decode cX7_feed 46 = .ok (.iload 4, 2) := by decide +kernel
theorem dX7_feed_48 : decode cX7_feed 48 = .ok (.invokevirtual 63, 3) := by decide +kernel
theorem dX7_feed_51 : decode cX7_feed 51 = .ok (.aload_n 0, 1) := by decide +kernel
theorem dX7_feed_52 : decode cX7_feed 52 = .ok (.getfield 12, 3) := by decide +kernel
theorem dX7_feed_55 : decode cX7_feed 55 = .ok (.iload 5, 2) := by decide +kernel
theorem dX7_feed_57 : decode cX7_feed 57 = .ok (.invokevirtual 63, 3) := by decide +kernel
theorem dX7_feed_60 : decode cX7_feed 60 = .ok (.aload_n 0, 1) := by decide +kernel
theorem dX7_feed_61 : decode cX7_feed 61 = .ok (.getfield 12, 3) := by decide +kernel
theorem dX7_feed_64 : decode cX7_feed 64 = .ok (.getfield 59, 3) := by decide +kernel
theorem dX7_feed_67 : decode cX7_feed 67 = .ok (.ireturn, 1) := by decide +kernel
noncomputable def fX7_feed  (t_tape_bytes : Nat → Int32) (t_tape_size : Int32) (v1 : Int32) (v2 : Int32) (v3 : Int32) (v4 : Int32) (v5 : Int32) : Option (Int32 × (Nat → Int32) × Int32) := (if (t_tape_size + 20) ≤ 600 then ob2 (fX5_add t_tape_bytes t_tape_size v1) fun w3 w4 => ob2 (fX5_add w3 w4 v2) fun w7 w8 => ob2 (fX5_add w7 w8 v3) fun w11 w12 => ob2 (fX5_add w11 w12 v4) fun w15 w16 => ob2 (fX5_add w15 w16 v5) fun w19 w20 => some (w20, w19, w20) else some ((-1), t_tape_bytes, t_tape_size))
set_option maxHeartbeats 4000000 in
set_option maxRecDepth 100000 in
theorem ctX7_feed (l : Launch) (g : GT) (sz : Nat) (a_t : Nat → Nat) (a_t_tape : Nat → Nat) (a_t_reader : Nat → Nat) (a_t_now : Nat → Nat) (a_t_choices : Nat → Nat) (a_t_ways : Nat → Nat) (a_t_stress : Nat → Nat) (t_tape_size : Int32) (t_tape_bytes : Nat → Int32) (v1 : Int32) (v2 : Int32) (v3 : Int32) (v4 : Int32) (v5 : Int32) (o : Int32) (o_t_tape_bytes : Nat → Int32) (o_t_tape_size : Int32) (h : fX7_feed t_tape_bytes t_tape_size v1 v2 v3 v4 v5 = some (o, o_t_tape_bytes, o_t_tape_size)) : Met l yX7_feed (Cond.code yX7_feed cX7_feed 6 (some .int) :: Tw) ⟨1, 0, 0, 22⟩ (va_Pc [.ref ((a_t 0)), .int v1, .int v2, .int v3, .int v4, .int v5] (rwB g [((a_t 0), .inr (6, [.ref (a_t_tape 0), .ref (a_t_reader 0), .ref (a_t_now 0), .ref (a_t 4), .ref (a_t_choices 0), .ref (a_t_ways 0), .ref (a_t_stress 0)])), ((a_t_tape 0), .inr (4, [.ref (a_t_tape 1), .int t_tape_size])), ((a_t_tape 1), .inl (g.2.2.1 2, 600, .inl t_tape_bytes))] sz)) (va_Qi (fun x (_ : Nat → Nat) => x = o) (fun u => rwE g (va_A [((a_t 0), .inr (6, [.ref (a_t_tape 0), .ref (a_t_reader 0), .ref (a_t_now 0), .ref (a_t 4), .ref (a_t_choices 0), .ref (a_t_ways 0), .ref (a_t_stress 0)])), ((a_t_tape 0), .inr (4, [.ref (a_t_tape 1), .int t_tape_size])), ((a_t_tape 1), .inl (g.2.2.1 2, 600, .inl t_tape_bytes))] sz) [((a_t 0), .inr (6, [.ref (a_t_tape 0), .ref (a_t_reader 0), .ref (a_t_now 0), .ref (a_t 4), .ref (a_t_choices 0), .ref (a_t_ways 0), .ref (a_t_stress 0)])), ((a_t_tape 0), .inr (4, [.ref (a_t_tape 1), .int o_t_tape_size])), ((a_t_tape 1), .inl (g.2.2.1 2, 600, .inl o_t_tape_bytes))]) (va_A [((a_t 0), .inr (6, [.ref (a_t_tape 0), .ref (a_t_reader 0), .ref (a_t_now 0), .ref (a_t 4), .ref (a_t_choices 0), .ref (a_t_ways 0), .ref (a_t_stress 0)])), ((a_t_tape 0), .inr (4, [.ref (a_t_tape 1), .int t_tape_size])), ((a_t_tape 1), .inl (g.2.2.1 2, 600, .inl t_tape_bytes))] sz)) 0 0 (va_A [((a_t 0), .inr (6, [.ref (a_t_tape 0), .ref (a_t_reader 0), .ref (a_t_now 0), .ref (a_t 4), .ref (a_t_choices 0), .ref (a_t_ways 0), .ref (a_t_stress 0)])), ((a_t_tape 0), .inr (4, [.ref (a_t_tape 1), .int t_tape_size])), ((a_t_tape 1), .inl (g.2.2.1 2, 600, .inl t_tape_bytes))] sz) := by
  refine rw_meti (by decide) (Nat.le_of_ble_eq_true rfl) (lv0 := [(0, .ref ((a_t 0))), (1, .int v1), (2, .int v2), (3, .int v3), (4, .int v4), (5, .int v5)]) rfl ?_
  intro p e s m args below meth c ls Q A cx hret hG hAb hb0 hA hP hD hl
  have hx := cx.1
  have hb := cx.2.1
  have hG0 := hG
  have hGk : ∀ {H : Heap} {locs : List Loc}, va_S A s.heap H locs → GE g s H := fun hS => hG0.keptS hAb hS
  have hSb : ∀ {H : Heap} {locs : List Loc}, va_S A s.heap H locs → va_S (fun a => g.1 ≤ a) s.heap H locs := fun hS => ⟨hS.1, fun q h1 h2 => hS.2.1 q h1 (fun z => h2 (hAb q z)), fun l hl => hAb _ (hS.2.2 l hl)⟩
  have hS : va_S A s.heap s.heap [] := va_S.rf
  have hrt : ∀ (u : Nat → Nat) (pc : Nat) (ls : Array Slot) (v : Int32) (x_t_tape_bytes : Nat → Int32) (x_t_tape_size : Int32) (H : Heap) (locs : List Loc), decode cX7_feed pc = .ok (.ireturn, 1) → some (v, x_t_tape_bytes, x_t_tape_size) = some (o, o_t_tape_bytes, o_t_tape_size) → va_P g.2.1 vwCl [((a_t 0), .inr (6, [.ref (a_t_tape 0), .ref (a_t_reader 0), .ref (a_t_now 0), .ref (a_t 4), .ref (a_t_choices 0), .ref (a_t_ways 0), .ref (a_t_stress 0)])), ((a_t_tape 0), .inr (4, [.ref (a_t_tape 1), .int x_t_tape_size])), ((a_t_tape 1), .inl (g.2.2.1 2, 600, .inl x_t_tape_bytes))] H → va_D A [((a_t 0), .inr (6, [.ref (a_t_tape 0), .ref (a_t_reader 0), .ref (a_t_now 0), .ref (a_t 4), .ref (a_t_choices 0), .ref (a_t_ways 0), .ref (a_t_stress 0)])), ((a_t_tape 0), .inr (4, [.ref (a_t_tape 1), .int x_t_tape_size])), ((a_t_tape 1), .inl (g.2.2.1 2, 600, .inl x_t_tape_bytes))] → va_S A s.heap H locs → W p l e ⟨1, 0, 0, 22⟩ s m args below meth c H locs 0 0 Q (F0 m pc ls [.int v]) := by
    intro u pc ls v x_t_tape_bytes x_t_tape_size H locs hd h hP hD hS
    cases h
    exact hret u _ _ _ _ _ hd rfl hP hD hS
  unfold fX7_feed at h
  refine lv_aload_n hx hb dX7_feed_0 rfl (lv_at hl 0 rfl) ?_
  refine xa_get (C := RX7) (T := TX7) (N := 7) cx hG hP 0 rfl rfl uX7 0 (by decide) lf_X7_12 rfl dX7_feed_1 ?_
  refine xa_getN (C := RX5) (T := TX5) (N := 2) cx hG hP 1 rfl rfl uX5 1 (by decide) nf_0 rfl dX7_feed_4 ?_
  refine lv_bipush (v := 20) hx hb dX7_feed_7 (by decide) ?_
  refine lv_iadd hx hb dX7_feed_9 ?_
  refine lv_sipush (v := 600) hx hb dX7_feed_10 (by decide) ?_
  refine lv_icmp_le (tgt := 18) hx hb dX7_feed_13 (by decide) (fun c1 => ?_) (fun c1 => ?_)
  · have h := itp c1 h
    refine lv_aload_n hx hb dX7_feed_18 rfl (lv_at hl 0 rfl) ?_
    refine xa_get (C := RX7) (T := TX7) (N := 7) cx hG hP 0 rfl rfl uX7 0 (by decide) lf_X7_12 rfl dX7_feed_19 ?_
    refine lv_iload_n hx hb dX7_feed_22 rfl (lv_at hl 1 rfl) ?_
    obtain ⟨w3, w4, hr2, h⟩ := ob2_out h
    refine rw_v (WN := fun u5 => [((a_t 0), .inr (6, [.ref (a_t_tape 0), .ref (a_t_reader 0), .ref (a_t_now 0), .ref (a_t 4), .ref (a_t_choices 0), .ref (a_t_ways 0), .ref (a_t_stress 0)])), ((a_t_tape 0), .inr (4, [.ref (a_t_tape 1), .int w4])), ((a_t_tape 1), .inl (g.2.2.1 2, 600, .inl w3))]) (wr := [((a_t 0), .inr (6, [.ref (a_t_tape 0), .ref (a_t_reader 0), .ref (a_t_now 0), .ref (a_t 4), .ref (a_t_choices 0), .ref (a_t_ways 0), .ref (a_t_stress 0)]))]) (runVN (As := [.int v1]) (rest := []) hG cx hl.1 (ctX5_add l g s.heap.size a_t_tape t_tape_size t_tape_bytes v1 w3 w4 hr2) kmX5_add kvX5_add nm_7 ⟨rfl, rfl⟩ ⟨Nat.le_of_ble_eq_true rfl, Nat.le_of_ble_eq_true rfl⟩ (rwV (q0 := 1) (ci := 4) hG (hP.sub [1, 2] rfl) (hD.sub [1, 2] (by decide) rfl) hAb hb0 hS hP rfl rfl) rfl rfl (Nat.le_of_ble_eq_true rfl) dX7_feed_23 ⟨Nat.le_of_ble_eq_true rfl, Nat.le_of_ble_eq_true rfl⟩) hP hD hS hA [1, 2] [0] rfl rfl (by decide) (by decide) (fun _ => rfl) (fun u5 H locs hP hD hS => ?_)
    have hG := hGk hS
    refine lv_aload_n hx hb dX7_feed_26 rfl (lv_at hl 0 rfl) ?_
    refine xa_get (C := RX7) (T := TX7) (N := 7) cx hG hP 0 rfl rfl uX7 0 (by decide) lf_X7_12 rfl dX7_feed_27 ?_
    refine lv_iload_n hx hb dX7_feed_30 rfl (lv_at hl 2 rfl) ?_
    obtain ⟨w7, w8, hr6, h⟩ := ob2_out h
    refine rw_v (WN := fun u9 => [((a_t 0), .inr (6, [.ref (a_t_tape 0), .ref (a_t_reader 0), .ref (a_t_now 0), .ref (a_t 4), .ref (a_t_choices 0), .ref (a_t_ways 0), .ref (a_t_stress 0)])), ((a_t_tape 0), .inr (4, [.ref (a_t_tape 1), .int w8])), ((a_t_tape 1), .inl (g.2.2.1 2, 600, .inl w7))]) (wr := [((a_t 0), .inr (6, [.ref (a_t_tape 0), .ref (a_t_reader 0), .ref (a_t_now 0), .ref (a_t 4), .ref (a_t_choices 0), .ref (a_t_ways 0), .ref (a_t_stress 0)]))]) (runVN (As := [.int v2]) (rest := []) hG cx hl.1 (ctX5_add l g H.size a_t_tape w4 w3 v2 w7 w8 hr6) kmX5_add kvX5_add nm_7 ⟨rfl, rfl⟩ ⟨Nat.le_of_ble_eq_true rfl, Nat.le_of_ble_eq_true rfl⟩ (rwV (q0 := 1) (ci := 4) hG (hP.sub [1, 2] rfl) (hD.sub [1, 2] (by decide) rfl) hAb hb0 hS hP rfl rfl) rfl rfl (Nat.le_of_ble_eq_true rfl) dX7_feed_31 ⟨Nat.le_of_ble_eq_true rfl, Nat.le_of_ble_eq_true rfl⟩) hP hD hS hA [1, 2] [0] rfl rfl (by decide) (by decide) (fun _ => rfl) (fun u9 H locs hP hD hS => ?_)
    have hG := hGk hS
    refine lv_aload_n hx hb dX7_feed_34 rfl (lv_at hl 0 rfl) ?_
    refine xa_get (C := RX7) (T := TX7) (N := 7) cx hG hP 0 rfl rfl uX7 0 (by decide) lf_X7_12 rfl dX7_feed_35 ?_
    refine lv_iload_n hx hb dX7_feed_38 rfl (lv_at hl 3 rfl) ?_
    obtain ⟨w11, w12, hr10, h⟩ := ob2_out h
    refine rw_v (WN := fun u13 => [((a_t 0), .inr (6, [.ref (a_t_tape 0), .ref (a_t_reader 0), .ref (a_t_now 0), .ref (a_t 4), .ref (a_t_choices 0), .ref (a_t_ways 0), .ref (a_t_stress 0)])), ((a_t_tape 0), .inr (4, [.ref (a_t_tape 1), .int w12])), ((a_t_tape 1), .inl (g.2.2.1 2, 600, .inl w11))]) (wr := [((a_t 0), .inr (6, [.ref (a_t_tape 0), .ref (a_t_reader 0), .ref (a_t_now 0), .ref (a_t 4), .ref (a_t_choices 0), .ref (a_t_ways 0), .ref (a_t_stress 0)]))]) (runVN (As := [.int v3]) (rest := []) hG cx hl.1 (ctX5_add l g H.size a_t_tape w8 w7 v3 w11 w12 hr10) kmX5_add kvX5_add nm_7 ⟨rfl, rfl⟩ ⟨Nat.le_of_ble_eq_true rfl, Nat.le_of_ble_eq_true rfl⟩ (rwV (q0 := 1) (ci := 4) hG (hP.sub [1, 2] rfl) (hD.sub [1, 2] (by decide) rfl) hAb hb0 hS hP rfl rfl) rfl rfl (Nat.le_of_ble_eq_true rfl) dX7_feed_39 ⟨Nat.le_of_ble_eq_true rfl, Nat.le_of_ble_eq_true rfl⟩) hP hD hS hA [1, 2] [0] rfl rfl (by decide) (by decide) (fun _ => rfl) (fun u13 H locs hP hD hS => ?_)
    have hG := hGk hS
    refine lv_aload_n hx hb dX7_feed_42 rfl (lv_at hl 0 rfl) ?_
    refine xa_get (C := RX7) (T := TX7) (N := 7) cx hG hP 0 rfl rfl uX7 0 (by decide) lf_X7_12 rfl dX7_feed_43 ?_
    refine lv_iload hx hb dX7_feed_46 (lv_at hl 4 rfl) ?_
    obtain ⟨w15, w16, hr14, h⟩ := ob2_out h
    refine rw_v (WN := fun u17 => [((a_t 0), .inr (6, [.ref (a_t_tape 0), .ref (a_t_reader 0), .ref (a_t_now 0), .ref (a_t 4), .ref (a_t_choices 0), .ref (a_t_ways 0), .ref (a_t_stress 0)])), ((a_t_tape 0), .inr (4, [.ref (a_t_tape 1), .int w16])), ((a_t_tape 1), .inl (g.2.2.1 2, 600, .inl w15))]) (wr := [((a_t 0), .inr (6, [.ref (a_t_tape 0), .ref (a_t_reader 0), .ref (a_t_now 0), .ref (a_t 4), .ref (a_t_choices 0), .ref (a_t_ways 0), .ref (a_t_stress 0)]))]) (runVN (As := [.int v4]) (rest := []) hG cx hl.1 (ctX5_add l g H.size a_t_tape w12 w11 v4 w15 w16 hr14) kmX5_add kvX5_add nm_7 ⟨rfl, rfl⟩ ⟨Nat.le_of_ble_eq_true rfl, Nat.le_of_ble_eq_true rfl⟩ (rwV (q0 := 1) (ci := 4) hG (hP.sub [1, 2] rfl) (hD.sub [1, 2] (by decide) rfl) hAb hb0 hS hP rfl rfl) rfl rfl (Nat.le_of_ble_eq_true rfl) dX7_feed_48 ⟨Nat.le_of_ble_eq_true rfl, Nat.le_of_ble_eq_true rfl⟩) hP hD hS hA [1, 2] [0] rfl rfl (by decide) (by decide) (fun _ => rfl) (fun u17 H locs hP hD hS => ?_)
    have hG := hGk hS
    refine lv_aload_n hx hb dX7_feed_51 rfl (lv_at hl 0 rfl) ?_
    refine xa_get (C := RX7) (T := TX7) (N := 7) cx hG hP 0 rfl rfl uX7 0 (by decide) lf_X7_12 rfl dX7_feed_52 ?_
    refine lv_iload hx hb dX7_feed_55 (lv_at hl 5 rfl) ?_
    obtain ⟨w19, w20, hr18, h⟩ := ob2_out h
    refine rw_v (WN := fun u21 => [((a_t 0), .inr (6, [.ref (a_t_tape 0), .ref (a_t_reader 0), .ref (a_t_now 0), .ref (a_t 4), .ref (a_t_choices 0), .ref (a_t_ways 0), .ref (a_t_stress 0)])), ((a_t_tape 0), .inr (4, [.ref (a_t_tape 1), .int w20])), ((a_t_tape 1), .inl (g.2.2.1 2, 600, .inl w19))]) (wr := [((a_t 0), .inr (6, [.ref (a_t_tape 0), .ref (a_t_reader 0), .ref (a_t_now 0), .ref (a_t 4), .ref (a_t_choices 0), .ref (a_t_ways 0), .ref (a_t_stress 0)]))]) (runVN (As := [.int v5]) (rest := []) hG cx hl.1 (ctX5_add l g H.size a_t_tape w16 w15 v5 w19 w20 hr18) kmX5_add kvX5_add nm_7 ⟨rfl, rfl⟩ ⟨Nat.le_of_ble_eq_true rfl, Nat.le_of_ble_eq_true rfl⟩ (rwV (q0 := 1) (ci := 4) hG (hP.sub [1, 2] rfl) (hD.sub [1, 2] (by decide) rfl) hAb hb0 hS hP rfl rfl) rfl rfl (Nat.le_of_ble_eq_true rfl) dX7_feed_57 ⟨Nat.le_of_ble_eq_true rfl, Nat.le_of_ble_eq_true rfl⟩) hP hD hS hA [1, 2] [0] rfl rfl (by decide) (by decide) (fun _ => rfl) (fun u21 H locs hP hD hS => ?_)
    have hG := hGk hS
    refine lv_aload_n hx hb dX7_feed_60 rfl (lv_at hl 0 rfl) ?_
    refine xa_get (C := RX7) (T := TX7) (N := 7) cx hG hP 0 rfl rfl uX7 0 (by decide) lf_X7_12 rfl dX7_feed_61 ?_
    refine xa_getN (C := RX5) (T := TX5) (N := 2) cx hG hP 1 rfl rfl uX5 1 (by decide) nf_0 rfl dX7_feed_64 ?_
    exact hrt (fun _ => 0) _ _ w20 w19 w20 _ _ dX7_feed_67 h (hP.sub [0, 1, 2] rfl) (hD.sub [0, 1, 2] (by decide) rfl) hS
  · have h := itn c1 h
    refine lv_iconst (v := -1) hx hb dX7_feed_16 (by decide) ?_
    exact hrt (fun _ => 0) _ _ ((-1)) t_tape_bytes t_tape_size _ _ dX7_feed_17 h (hP.sub [0, 1, 2] rfl) (hD.sub [0, 1, 2] (by decide) rfl) hS
