-- X8_along
theorem dX8_along_0 : decode cX8_along 0 = .ok (.aload_n 0, 1) := by decide +kernel
theorem dX8_along_1 : decode cX8_along 1 = .ok (.getfield 57, 3) := by decide +kernel
theorem dX8_along_4 : decode cX8_along 4 = .ok (.iload_n 1, 1) := by decide +kernel
theorem dX8_along_5 : decode cX8_along 5 = .ok (.iaload, 1) := by decide +kernel
theorem dX8_along_6 : decode cX8_along 6 = .ok (.iconst 4, 1) := by decide +kernel
theorem dX8_along_7 : decode cX8_along 7 = .ok (.irem, 1) := by decide +kernel
theorem dX8_along_8 : decode cX8_along 8 = .ok (.istore_n 2, 1) := by decide +kernel
theorem dX8_along_9 : decode cX8_along 9 = .ok (.iload_n 2, 1) := by decide +kernel
theorem dX8_along_10 : decode cX8_along 10 = .ok (.ifCond .ne 16, 3) := by decide +kernel
theorem dX8_along_13 : decode cX8_along 13 = .ok (.ldc2_w 239, 3) := by decide +kernel
theorem dX8_along_16 : decode cX8_along 16 = .ok (.aload_n 0, 1) := by decide +kernel
theorem dX8_along_17 : decode cX8_along 17 = .ok (.getfield 60, 3) := by decide +kernel
theorem dX8_along_20 : decode cX8_along 20 = .ok (.iconst 0, 1) := by decide +kernel
theorem dX8_along_21 : decode cX8_along 21 = .ok (.laload, 1) := by decide +kernel
theorem dX8_along_22 : decode cX8_along 22 = .ok (.lmul, 1) := by decide +kernel
theorem dX8_along_23 : decode cX8_along 23 = .ok (.goto 56, 3) := by decide +kernel
theorem dX8_along_26 : decode cX8_along 26 = .ok (.iload_n 2, 1) := by decide +kernel
theorem dX8_along_27 : decode cX8_along 27 = .ok (.iconst 3, 1) := by decide +kernel
theorem dX8_along_28 : decode cX8_along 28 = .ok (.if_icmp .ne 16, 3) := by decide +kernel
theorem dX8_along_31 : decode cX8_along 31 = .ok (.ldc2_w 239, 3) := by decide +kernel
theorem dX8_along_34 : decode cX8_along 34 = .ok (.aload_n 0, 1) := by decide +kernel
theorem dX8_along_35 : decode cX8_along 35 = .ok (.getfield 60, 3) := by decide +kernel
theorem dX8_along_38 : decode cX8_along 38 = .ok (.iconst 1, 1) := by decide +kernel
theorem dX8_along_39 : decode cX8_along 39 = .ok (.laload, 1) := by decide +kernel
theorem dX8_along_40 : decode cX8_along 40 = .ok (.lmul, 1) := by decide +kernel
theorem dX8_along_41 : decode cX8_along 41 = .ok (.goto 38, 3) := by decide +kernel
theorem dX8_along_44 : decode cX8_along 44 = .ok (.aload_n 0, 1) := by decide +kernel
theorem dX8_along_45 : decode cX8_along 45 = .ok (.getfield 60, 3) := by decide +kernel
theorem dX8_along_48 : decode cX8_along 48 = .ok (.iconst 0, 1) := by decide +kernel
theorem dX8_along_49 : decode cX8_along 49 = .ok (.laload, 1) := by decide +kernel
theorem dX8_along_50 : decode cX8_along 50 = .ok (.aload_n 0, 1) := by decide +kernel
theorem dX8_along_51 : decode cX8_along 51 = .ok (.getfield 60, 3) := by decide +kernel
theorem dX8_along_54 : decode cX8_along 54 = .ok (.iconst 1, 1) := by decide +kernel
theorem dX8_along_55 : decode cX8_along 55 = .ok (.laload, 1) := by decide +kernel
theorem dX8_along_56 : decode cX8_along 56 = .ok (.ladd, 1) := by decide +kernel
theorem dX8_along_57 : decode cX8_along 57 = .ok (.iload_n 2, 1) := by decide +kernel
theorem dX8_along_58 : decode cX8_along 58 = .ok (.iconst 1, 1) := by decide +kernel
theorem dX8_along_59 : decode cX8_along 59 = .ok (.if_icmp .ne 12, 3) := by decide +kernel
theorem dX8_along_62 : decode cX8_along 62 = .ok (.aload_n 0, 1) := by decide +kernel
theorem dX8_along_63 : decode cX8_along 63 = .ok (.getfield 60, 3) := by decide +kernel
theorem dX8_along_66 : decode cX8_along 66 = .ok (.iconst 2, 1) := by decide +kernel
theorem dX8_along_67 : decode cX8_along 67 = .ok (.laload, 1) := by decide +kernel
theorem dX8_along_68 : decode cX8_along 68 = .ok (.goto 10, 3) := by decide +kernel
theorem dX8_along_71 : decode cX8_along 71 = .ok (.aload_n 0, 1) := by decide +kernel
theorem dX8_along_72 : decode cX8_along 72 = .ok (.getfield 60, 3) := by decide +kernel
theorem dX8_along_75 : decode cX8_along 75 = .ok (.iconst 2, 1) := by decide +kernel
theorem dX8_along_76 : decode cX8_along 76 = .ok (.laload, 1) := by decide +kernel
theorem dX8_along_77 : decode cX8_along 77 = .ok (.lneg, 1) := by decide +kernel
theorem dX8_along_78 : decode cX8_along 78 = .ok (.ladd, 1) := by decide +kernel
theorem dX8_along_79 : decode cX8_along 79 = .ok (.lstore_n 3, 1) := by decide +kernel
theorem dX8_along_80 : decode cX8_along 80 = .ok (.lload_n 3, 1) := by decide +kernel
theorem dX8_along_81 : decode cX8_along 81 = .ok (.invokestatic 3, 3) := by decide +kernel
theorem dX8_along_84 : decode cX8_along 84 = .ok (.lreturn, 1) := by decide +kernel
noncomputable def fX8_along_79  (z0 : Int64) : Option (Int64) := some (labs z0)
noncomputable def fX8_along_78  (z0 : Int64) (z1 : Int64) : Option (Int64) := fX8_along_79 (z0 + z1)
noncomputable def fX8_along  (t_row : Nat → Int32) (t_strain : Nat → Int64) (v1 : Int32) : Option (Int64) := chk 8 v1 ((if (irem (t_row v1.toNatClampNeg) 4) = 0 then fX8_along_79 (2 * (t_strain 0)) else (if (irem (t_row v1.toNatClampNeg) 4) = 3 then fX8_along_79 (2 * (t_strain 1)) else (if (irem (t_row v1.toNatClampNeg) 4) = 1 then fX8_along_78 ((t_strain 0) + (t_strain 1)) (t_strain 2) else fX8_along_78 ((t_strain 0) + (t_strain 1)) (-(t_strain 2))))))
set_option maxHeartbeats 4000000 in
set_option maxRecDepth 100000 in
theorem ctX8_along (l : Launch) (g : GT) (a_t : Nat → Nat) (t_acted : Int32) (t_taped : Int32) (t_faultKind : Int32) (t_faultPlace : Int32) (t_at : Int32) (t_begin : Int32) (t_token : Int32) (t_value : Int32) (t_bad : Int32) (t_wide : Int32) (t_lost : Int32) (t_det : Int64) (t_mask : Int32) (t_mode : Int32) (t_wanted : Int32) (t_orders : Int32) (t_foundAt : Int32) (t_foundBy : Int64) (t_unlikes : Int32) (t_row : Nat → Int32) (t_strain : Nat → Int64) (v1 : Int32) (o : Int64) (h : fX8_along t_row t_strain v1 = some o) : Met l yX8_along (Cond.code yX8_along cX8_along 5 (some .long) :: Tw) ⟨1, 0, 0, 26⟩ (va_Pc [.ref ((a_t 0)), .int v1] (roB g [((a_t 0), .inr (7, [.ref (a_t 1), .ref (a_t 2), .int t_acted, .ref (a_t 4), .ref (a_t 5), .ref (a_t 6), .ref (a_t 7), .ref (a_t 8), .ref (a_t 9), .int t_taped, .int t_faultKind, .int t_faultPlace, .int t_at, .int t_begin, .int t_token, .int t_value, .int t_bad, .ref (a_t 18), .ref (a_t 19), .ref (a_t 20), .int t_wide, .int t_lost, .ref (a_t 23), .long t_det, .ref (a_t 25), .int t_mask, .int t_mode, .int t_wanted, .int t_orders, .int t_foundAt, .long t_foundBy, .ref (a_t 32), .ref (a_t 33), .int t_unlikes, .ref (a_t 35), .ref (a_t 36)])), ((a_t 20), .inl (g.2.2.1 0, 8, .inl t_row)), ((a_t 23), .inl (g.2.2.1 1, 3, .inr (.inl t_strain)))])) (vp_Sl (fun x => x = o)) 0 0 (fun _ => False) := by
  refine ro_metl (by decide) (Nat.le_of_ble_eq_true rfl) (lv0 := [(0, .ref ((a_t 0))), (1, .int v1)]) rfl ?_
  intro p e s m args below meth c ls Q cx hret hG hP hl
  have hx := cx.1
  have hb := cx.2.1
  have hG0 := hG
  have w79 : ∀ (z0 : Int64) (ls : Array Slot), lv_has ls 5 [] → fX8_along_79  z0 = some o → W p l e ⟨1, 0, 0, 26⟩ s m args below meth c s.heap [] 0 0 Q (F0 m 79 ls [.long z0]) := by
    intro z0 ls hl h
    unfold fX8_along_79 at h
    refine lv_lstore_n (lv' := [(3, .long z0)]) hx hb dX8_along_79 rfl hl (by decide) rfl (fun ls hl => ?_)
    refine lv_lload_n hx hb dX8_along_80 rfl (lv_at hl 0 rfl) ?_
    refine xm_labs cx hl.1 lm_X8_3 ⟨ksJ9_abs_067f4, kmJ9_abs_067f4.2.1, kmJ9_abs_067f4.1⟩ (Nat.le_of_ble_eq_true rfl) (Nat.le_of_ble_eq_true rfl) (Nat.le_of_ble_eq_true rfl) (Nat.le_of_ble_eq_true rfl) dX8_along_81 ?_
    exact hret _ _ _ dX8_along_84 (Option.some.inj h)
  have w78 : ∀ (z0 : Int64) (z1 : Int64) (ls : Array Slot), lv_has ls 5 [] → fX8_along_78  z0 z1 = some o → W p l e ⟨1, 0, 0, 26⟩ s m args below meth c s.heap [] 0 0 Q (F0 m 78 ls [.long z1, .long z0]) := by
    intro z0 z1 ls hl h
    unfold fX8_along_78 at h
    refine lv_ladd hx hb dX8_along_78 ?_
    exact w79 (z0 + z1) _ (lv_sub hl [] rfl) h
  unfold fX8_along at h
  refine lv_aload_n hx hb dX8_along_0 rfl (lv_at hl 0 rfl) ?_
  refine xa_get (C := RX8) (T := TX8) (N := 36) cx hG hP 0 rfl rfl uX8 19 (by decide) lf_X8_57 rfl dX8_along_1 ?_
  refine lv_iload_n hx hb dX8_along_4 rfl (lv_at hl 1 rfl) ?_
  obtain ⟨hi1, h⟩ := chk_out h
  refine xa_iald cx hG hP 1 rfl hi1 rfl dX8_along_5 ?_
  refine lv_iconst (v := 4) hx hb dX8_along_6 (by decide) ?_
  refine xv_irem hx hb dX8_along_7 (by decide) ?_
  refine lv_istore_n (lv' := [(2, .int (irem (t_row v1.toNatClampNeg) 4)), (0, .ref ((a_t 0))), (1, .int v1)]) hx hb dX8_along_8 rfl hl (by decide) rfl (fun ls hl => ?_)
  refine lv_iload_n hx hb dX8_along_9 rfl (lv_at hl 0 rfl) ?_
  refine lv_if_ne (tgt := 26) hx hb dX8_along_10 (by decide) (fun c2 => ?_) (fun c2 => ?_)
  · have h := itn c2 h
    refine lv_iload_n hx hb dX8_along_26 rfl (lv_at hl 0 rfl) ?_
    refine lv_iconst (v := 3) hx hb dX8_along_27 (by decide) ?_
    refine lv_icmp_ne (tgt := 44) hx hb dX8_along_28 (by decide) (fun c3 => ?_) (fun c3 => ?_)
    · have h := itn c3 h
      refine lv_aload_n hx hb dX8_along_44 rfl (lv_at hl 1 rfl) ?_
      refine xa_get (C := RX8) (T := TX8) (N := 36) cx hG hP 0 rfl rfl uX8 22 (by decide) lf_X8_60 rfl dX8_along_45 ?_
      refine lv_iconst (v := 0) hx hb dX8_along_48 (by decide) ?_
      refine xa_lald (k := 0) cx hG hP 2 rfl (show ¬ ((0 : Int32) < 0 ∨ 3 ≤ (0 : Int32).toNatClampNeg) by decide) (by decide) dX8_along_49 ?_
      refine lv_aload_n hx hb dX8_along_50 rfl (lv_at hl 1 rfl) ?_
      refine xa_get (C := RX8) (T := TX8) (N := 36) cx hG hP 0 rfl rfl uX8 22 (by decide) lf_X8_60 rfl dX8_along_51 ?_
      refine lv_iconst (v := 1) hx hb dX8_along_54 (by decide) ?_
      refine xa_lald (k := 1) cx hG hP 2 rfl (show ¬ ((1 : Int32) < 0 ∨ 3 ≤ (1 : Int32).toNatClampNeg) by decide) (by decide) dX8_along_55 ?_
      refine lv_ladd hx hb dX8_along_56 ?_
      refine lv_iload_n hx hb dX8_along_57 rfl (lv_at hl 0 rfl) ?_
      refine lv_iconst (v := 1) hx hb dX8_along_58 (by decide) ?_
      refine lv_icmp_ne (tgt := 71) hx hb dX8_along_59 (by decide) (fun c4 => ?_) (fun c4 => ?_)
      · have h := itn c4 h
        refine lv_aload_n hx hb dX8_along_71 rfl (lv_at hl 1 rfl) ?_
        refine xa_get (C := RX8) (T := TX8) (N := 36) cx hG hP 0 rfl rfl uX8 22 (by decide) lf_X8_60 rfl dX8_along_72 ?_
        refine lv_iconst (v := 2) hx hb dX8_along_75 (by decide) ?_
        refine xa_lald (k := 2) cx hG hP 2 rfl (show ¬ ((2 : Int32) < 0 ∨ 3 ≤ (2 : Int32).toNatClampNeg) by decide) (by decide) dX8_along_76 ?_
        refine lv_lneg hx hb dX8_along_77 ?_
        exact w78 ((t_strain 0) + (t_strain 1)) (-(t_strain 2)) _ (lv_sub hl [] rfl) h
      · have h := itp c4 h
        refine lv_aload_n hx hb dX8_along_62 rfl (lv_at hl 1 rfl) ?_
        refine xa_get (C := RX8) (T := TX8) (N := 36) cx hG hP 0 rfl rfl uX8 22 (by decide) lf_X8_60 rfl dX8_along_63 ?_
        refine lv_iconst (v := 2) hx hb dX8_along_66 (by decide) ?_
        refine xa_lald (k := 2) cx hG hP 2 rfl (show ¬ ((2 : Int32) < 0 ∨ 3 ≤ (2 : Int32).toNatClampNeg) by decide) (by decide) dX8_along_67 ?_
        refine lv_goto (tgt := 78) hx hb dX8_along_68 (by decide) ?_
        exact w78 ((t_strain 0) + (t_strain 1)) (t_strain 2) _ (lv_sub hl [] rfl) h
    · have h := itp c3 h
      refine lv_ldc2 (own := RX8) (v := 2) hx hb cx.2.2.2.1 (cx.2.2.2.2 _ cl_X8_239) dX8_along_31 ?_
      refine lv_aload_n hx hb dX8_along_34 rfl (lv_at hl 1 rfl) ?_
      refine xa_get (C := RX8) (T := TX8) (N := 36) cx hG hP 0 rfl rfl uX8 22 (by decide) lf_X8_60 rfl dX8_along_35 ?_
      refine lv_iconst (v := 1) hx hb dX8_along_38 (by decide) ?_
      refine xa_lald (k := 1) cx hG hP 2 rfl (show ¬ ((1 : Int32) < 0 ∨ 3 ≤ (1 : Int32).toNatClampNeg) by decide) (by decide) dX8_along_39 ?_
      refine lv_lmul hx hb dX8_along_40 ?_
      refine lv_goto (tgt := 79) hx hb dX8_along_41 (by decide) ?_
      exact w79 (2 * (t_strain 1)) _ (lv_sub hl [] rfl) h
  · have h := itp c2 h
    refine lv_ldc2 (own := RX8) (v := 2) hx hb cx.2.2.2.1 (cx.2.2.2.2 _ cl_X8_239) dX8_along_13 ?_
    refine lv_aload_n hx hb dX8_along_16 rfl (lv_at hl 1 rfl) ?_
    refine xa_get (C := RX8) (T := TX8) (N := 36) cx hG hP 0 rfl rfl uX8 22 (by decide) lf_X8_60 rfl dX8_along_17 ?_
    refine lv_iconst (v := 0) hx hb dX8_along_20 (by decide) ?_
    refine xa_lald (k := 0) cx hG hP 2 rfl (show ¬ ((0 : Int32) < 0 ∨ 3 ≤ (0 : Int32).toNatClampNeg) by decide) (by decide) dX8_along_21 ?_
    refine lv_lmul hx hb dX8_along_22 ?_
    refine lv_goto (tgt := 79) hx hb dX8_along_23 (by decide) ?_
    exact w79 (2 * (t_strain 0)) _ (lv_sub hl [] rfl) h
-- X8_limitOf
theorem dX8_limitOf_0 : decode cX8_limitOf 0 = .ok (.aload_n 0, 1) := by decide +kernel
theorem dX8_limitOf_1 : decode cX8_limitOf 1 = .ok (.getfield 21, 3) := by decide +kernel
theorem dX8_limitOf_4 : decode cX8_limitOf 4 = .ok (.iconst 4, 1) := by decide +kernel
theorem dX8_limitOf_5 : decode cX8_limitOf 5 = .ok (.iconst 5, 1) := by decide +kernel
theorem dX8_limitOf_6 : decode cX8_limitOf 6 = .ok (.aload_n 0, 1) := by decide +kernel
theorem dX8_limitOf_7 : decode cX8_limitOf 7 = .ok (.getfield 57, 3) := by decide +kernel
theorem dX8_limitOf_10 : decode cX8_limitOf 10 = .ok (.iload_n 1, 1) := by decide +kernel
theorem dX8_limitOf_11 : decode cX8_limitOf 11 = .ok (.iaload, 1) := by decide +kernel
theorem dX8_limitOf_12 : decode cX8_limitOf 12 = .ok (.iconst 4, 1) := by decide +kernel
theorem dX8_limitOf_13 : decode cX8_limitOf 13 = .ok (.idiv, 1) := by decide +kernel
theorem dX8_limitOf_14 : decode cX8_limitOf 14 = .ok (.imul, 1) := by decide +kernel
theorem dX8_limitOf_15 : decode cX8_limitOf 15 = .ok (.iadd, 1) := by decide +kernel
theorem dX8_limitOf_16 : decode cX8_limitOf 16 = .ok (.iconst 4, 1) := by decide +kernel
theorem dX8_limitOf_17 : decode cX8_limitOf 17 = .ok (.iadd, 1) := by decide +kernel
theorem dX8_limitOf_18 : decode cX8_limitOf 18 = .ok (.iaload, 1) := by decide +kernel
theorem dX8_limitOf_19 : decode cX8_limitOf 19 = .ok (.i2l, 1) := by decide +kernel
theorem dX8_limitOf_20 : decode cX8_limitOf 20 = .ok (.lreturn, 1) := by decide +kernel
noncomputable def fX8_limitOf  (t_mem : Nat → Int32) (t_row : Nat → Int32) (v1 : Int32) : Option (Int64) := chk 8 v1 (chk 27 ((4 + (5 * ((t_row v1.toNatClampNeg) / 4))) + 4) (some ((t_mem ((4 + (5 * ((t_row v1.toNatClampNeg) / 4))) + 4).toNatClampNeg).toInt64)))
set_option maxHeartbeats 4000000 in
set_option maxRecDepth 100000 in
theorem ctX8_limitOf (l : Launch) (g : GT) (a_t : Nat → Nat) (t_acted : Int32) (t_taped : Int32) (t_faultKind : Int32) (t_faultPlace : Int32) (t_at : Int32) (t_begin : Int32) (t_token : Int32) (t_value : Int32) (t_bad : Int32) (t_wide : Int32) (t_lost : Int32) (t_det : Int64) (t_mask : Int32) (t_mode : Int32) (t_wanted : Int32) (t_orders : Int32) (t_foundAt : Int32) (t_foundBy : Int64) (t_unlikes : Int32) (t_mem : Nat → Int32) (t_row : Nat → Int32) (v1 : Int32) (o : Int64) (h : fX8_limitOf t_mem t_row v1 = some o) : Met l yX8_limitOf (Cond.code yX8_limitOf cX8_limitOf 2 (some .long) :: Tw) ⟨0, 0, 0, 0⟩ (va_Pc [.ref ((a_t 0)), .int v1] (roB g [((a_t 0), .inr (7, [.ref (a_t 1), .ref (a_t 2), .int t_acted, .ref (a_t 4), .ref (a_t 5), .ref (a_t 6), .ref (a_t 7), .ref (a_t 8), .ref (a_t 9), .int t_taped, .int t_faultKind, .int t_faultPlace, .int t_at, .int t_begin, .int t_token, .int t_value, .int t_bad, .ref (a_t 18), .ref (a_t 19), .ref (a_t 20), .int t_wide, .int t_lost, .ref (a_t 23), .long t_det, .ref (a_t 25), .int t_mask, .int t_mode, .int t_wanted, .int t_orders, .int t_foundAt, .long t_foundBy, .ref (a_t 32), .ref (a_t 33), .int t_unlikes, .ref (a_t 35), .ref (a_t 36)])), ((a_t 1), .inl (g.2.2.1 0, 27, .inl t_mem)), ((a_t 20), .inl (g.2.2.1 0, 8, .inl t_row))])) (vp_Sl (fun x => x = o)) 0 0 (fun _ => False) := by
  refine ro_metl (by decide) (Nat.le_of_ble_eq_true rfl) (lv0 := [(0, .ref ((a_t 0))), (1, .int v1)]) rfl ?_
  intro p e s m args below meth c ls Q cx hret hG hP hl
  have hx := cx.1
  have hb := cx.2.1
  have hG0 := hG
  unfold fX8_limitOf at h
  refine lv_aload_n hx hb dX8_limitOf_0 rfl (lv_at hl 0 rfl) ?_
  refine xa_get (C := RX8) (T := TX8) (N := 36) cx hG hP 0 rfl rfl uX8 0 (by decide) lf_X8_21 rfl dX8_limitOf_1 ?_
  refine lv_iconst (v := 4) hx hb dX8_limitOf_4 (by decide) ?_
  refine lv_iconst (v := 5) hx hb dX8_limitOf_5 (by decide) ?_
  refine lv_aload_n hx hb dX8_limitOf_6 rfl (lv_at hl 0 rfl) ?_
  refine xa_get (C := RX8) (T := TX8) (N := 36) cx hG hP 0 rfl rfl uX8 19 (by decide) lf_X8_57 rfl dX8_limitOf_7 ?_
  refine lv_iload_n hx hb dX8_limitOf_10 rfl (lv_at hl 1 rfl) ?_
  obtain ⟨hi1, h⟩ := chk_out h
  refine xa_iald cx hG hP 2 rfl hi1 rfl dX8_limitOf_11 ?_
  refine lv_iconst (v := 4) hx hb dX8_limitOf_12 (by decide) ?_
  refine lv_idiv hx hb dX8_limitOf_13 (by decide) ?_
  refine lv_imul hx hb dX8_limitOf_14 ?_
  refine lv_iadd hx hb dX8_limitOf_15 ?_
  refine lv_iconst (v := 4) hx hb dX8_limitOf_16 (by decide) ?_
  refine lv_iadd hx hb dX8_limitOf_17 ?_
  obtain ⟨hi2, h⟩ := chk_out h
  refine xa_iald cx hG hP 1 rfl hi2 rfl dX8_limitOf_18 ?_
  refine lv_i2l (v := (t_mem ((4 + (5 * ((t_row v1.toNatClampNeg) / 4))) + 4).toNatClampNeg).toInt64) hx hb dX8_limitOf_19 rfl ?_
  exact hret _ _ _ dX8_limitOf_20 (Option.some.inj h)
-- X8_factor
theorem dX8_factor_0 : decode cX8_factor 0 = .ok (.aload_n 0, 1) := by decide +kernel
theorem dX8_factor_1 : decode cX8_factor 1 = .ok (.invokevirtual 236, 3) := by decide +kernel
theorem dX8_factor_4 : decode cX8_factor 4 = .ok (.ifCond .eq 25, 3) := by decide +kernel
theorem dX8_factor_7 : decode cX8_factor 7 = .ok (.iload_n 1, 1) := by decide +kernel
theorem dX8_factor_8 : decode cX8_factor 8 = .ok (.iload_n 2, 1) := by decide +kernel
theorem dX8_factor_9 : decode cX8_factor 9 = .ok (.iload_n 3, 1) := by decide +kernel
theorem dX8_factor_10 : decode cX8_factor 10 = .ok (.invokestatic 272, 3) := by decide +kernel
theorem dX8_factor_13 : decode cX8_factor 13 = .ok (.ifCond .eq 16, 3) := by decide +kernel
theorem dX8_factor_16 : decode cX8_factor 16 = .ok (.iload 4, 2) := by decide +kernel
theorem dX8_factor_18 : decode cX8_factor 18 = .ok (.i2l, 1) := by decide +kernel
theorem dX8_factor_19 : decode cX8_factor 19 = .ok (.lconst 0, 1) := by decide +kernel
theorem dX8_factor_20 : decode cX8_factor 20 = .ok (.ldc2_w 239, 3) := by decide +kernel
theorem dX8_factor_23 : decode cX8_factor 23 = .ok (.invokestatic 83, 3) := by decide +kernel
theorem dX8_factor_26 : decode cX8_factor 26 = .ok (.ifCond .ne 7, 3) := by decide +kernel
theorem dX8_factor_29 : decode cX8_factor 29 = .ok (.ldc2_w 249, 3) := by decide +kernel
theorem dX8_factor_32 : decode cX8_factor 32 = .ok (.lreturn, 1) := by decide +kernel
theorem dX8_factor_33 : decode cX8_factor 33 = .ok (.aload_n 0, 1) := by decide +kernel
theorem dX8_factor_34 : decode cX8_factor 34 = .ok (.invokevirtual 243, 3) := by decide +kernel
theorem dX8_factor_37 : decode cX8_factor 37 = .ok (.aload_n 0, 1) := by decide +kernel
theorem dX8_factor_38 : decode cX8_factor 38 = .ok (.iconst 0, 1) := by decide +kernel
theorem dX8_factor_39 : decode cX8_factor 39 = .ok (.iload_n 1, 1) := by decide +kernel
theorem dX8_factor_40 : decode cX8_factor 40 = .ok (.i2l, 1) := by decide +kernel
theorem dX8_factor_41 : decode cX8_factor 41 = .ok (.iload_n 2, 1) := by decide +kernel
theorem dX8_factor_42 : decode cX8_factor 42 = .ok (.i2l, 1) := by decide +kernel
theorem dX8_factor_43 : decode cX8_factor 43 = .ok (.iload_n 3, 1) := by decide +kernel
theorem dX8_factor_44 : decode cX8_factor 44 = .ok (.i2l, 1) := by decide +kernel
theorem dX8_factor_45 : decode cX8_factor 45 = .ok (.invokevirtual 276, 3) := by decide +kernel
theorem dX8_factor_48 : decode cX8_factor 48 = .ok (.aload_n 0, 1) := by decide +kernel
theorem dX8_factor_49 : decode cX8_factor 49 = .ok (.getfield 264, 3) := by decide +kernel
theorem dX8_factor_52 : decode cX8_factor 52 = .ok (.lconst 0, 1) := by decide +kernel
theorem dX8_factor_53 : decode cX8_factor 53 = .ok (.lcmp, 1) := by decide +kernel
theorem dX8_factor_54 : decode cX8_factor 54 = .ok (.ifCond .eq 12, 3) := by decide +kernel
theorem dX8_factor_57 : decode cX8_factor 57 = .ok (.aload_n 0, 1) := by decide +kernel
theorem dX8_factor_58 : decode cX8_factor 58 = .ok (.invokevirtual 226, 3) := by decide +kernel
theorem dX8_factor_61 : decode cX8_factor 61 = .ok (.lconst 0, 1) := by decide +kernel
theorem dX8_factor_62 : decode cX8_factor 62 = .ok (.lcmp, 1) := by decide +kernel
theorem dX8_factor_63 : decode cX8_factor 63 = .ok (.ifCond .eq 7, 3) := by decide +kernel
theorem dX8_factor_66 : decode cX8_factor 66 = .ok (.ldc2_w 290, 3) := by decide +kernel
theorem dX8_factor_69 : decode cX8_factor 69 = .ok (.lreturn, 1) := by decide +kernel
theorem dX8_factor_70 : decode cX8_factor 70 = .ok (.iconst (-1), 1) := by decide +kernel
theorem dX8_factor_71 : decode cX8_factor 71 = .ok (.istore 5, 2) := by decide +kernel
theorem dX8_factor_73 : decode cX8_factor 73 = .ok (.iconst 0, 1) := by decide +kernel
theorem dX8_factor_74 : decode cX8_factor 74 = .ok (.istore 6, 2) := by decide +kernel
theorem dX8_factor_76 : decode cX8_factor 76 = .ok (.iload 6, 2) := by decide +kernel
theorem dX8_factor_78 : decode cX8_factor 78 = .ok (.aload_n 0, 1) := by decide +kernel
theorem dX8_factor_79 : decode cX8_factor 79 = .ok (.getfield 206, 3) := by decide +kernel
theorem dX8_factor_82 : decode cX8_factor 82 = .ok (.if_icmp .ge 60, 3) := by decide +kernel
theorem dX8_factor_85 : decode cX8_factor 85 = .ok (.aload_n 0, 1) := by decide +kernel
theorem dX8_factor_86 : decode cX8_factor 86 = .ok (.iload 6, 2) := by decide +kernel
theorem dX8_factor_88 : decode cX8_factor 88 = .ok (.invokevirtual 292, 3) := by decide +kernel
theorem dX8_factor_91 : decode cX8_factor 91 = .ok (.lconst 0, 1) := by decide +kernel
theorem dX8_factor_92 : decode cX8_factor 92 = .ok (.lcmp, 1) := by decide +kernel
theorem dX8_factor_93 : decode cX8_factor 93 = .ok (.ifCond .eq 43, 3) := by decide +kernel
theorem dX8_factor_96 : decode cX8_factor 96 = .ok (.iload 5, 2) := by decide +kernel
theorem dX8_factor_98 : decode cX8_factor 98 = .ok (.iconst (-1), 1) := by decide +kernel
theorem dX8_factor_99 : decode cX8_factor 99 = .ok (.if_icmp .eq 33, 3) := by decide +kernel
theorem dX8_factor_102 : decode cX8_factor 102 = .ok (.aload_n 0, 1) := by decide +kernel
theorem dX8_factor_103 : decode cX8_factor 103 = .ok (.iload 6, 2) := by decide +kernel
theorem dX8_factor_105 : decode cX8_factor 105 = .ok (.invokevirtual 295, 3) := by decide +kernel
theorem dX8_factor_108 : decode cX8_factor 108 = .ok (.aload_n 0, 1) := by decide +kernel
theorem dX8_factor_109 : decode cX8_factor 109 = .ok (.iload 5, 2) := by decide +kernel
theorem dX8_factor_111 : decode cX8_factor 111 = .ok (.invokevirtual 292, 3) := by decide +kernel
theorem dX8_factor_114 : decode cX8_factor 114 = .ok (.lmul, 1) := by decide +kernel
theorem dX8_factor_115 : decode cX8_factor 115 = .ok (.aload_n 0, 1) := by decide +kernel
theorem dX8_factor_116 : decode cX8_factor 116 = .ok (.iload 5, 2) := by decide +kernel
theorem dX8_factor_118 : decode cX8_factor 118 = .ok (.invokevirtual 295, 3) := by decide +kernel
theorem dX8_factor_121 : decode cX8_factor 121 = .ok (.aload_n 0, 1) := by decide +kernel
theorem dX8_factor_122 : decode cX8_factor 122 = .ok (.iload 6, 2) := by decide +kernel
theorem dX8_factor_124 : decode cX8_factor 124 = .ok (.invokevirtual 292, 3) := by decide +kernel
theorem dX8_factor_127 : decode cX8_factor 127 = .ok (.lmul, 1) := by decide +kernel
theorem dX8_factor_128 : decode cX8_factor 128 = .ok (.lcmp, 1) := by decide +kernel
theorem dX8_factor_129 : decode cX8_factor 129 = .ok (.ifCond .ge 7, 3) := by decide +kernel
theorem dX8_factor_132 : decode cX8_factor 132 = .ok (.iload 6, 2) := by decide +kernel
theorem dX8_factor_134 : decode cX8_factor 134 = .ok (.istore 5, 2) := by decide +kernel
theorem dX8_factor_136 : decode cX8_factor 136 = .ok (.iinc 6 1, 3) := by decide +kernel
theorem dX8_factor_139 : decode cX8_factor 139 = .ok (.goto (-63), 3) := by decide +kernel
theorem dX8_factor_142 : decode cX8_factor 142 = .ok (.iload 5, 2) := by decide +kernel
theorem dX8_factor_144 : decode cX8_factor 144 = .ok (.iconst (-1), 1) := by decide +kernel
theorem dX8_factor_145 : decode cX8_factor 145 = .ok (.if_icmp .ne 9, 3) := by decide +kernel
theorem dX8_factor_148 : decode cX8_factor 148 = .ok (.ldc2_w 298, 3) := by decide +kernel
theorem dX8_factor_151 : decode cX8_factor 151 = .ok (.goto 40, 3) := by decide +kernel
theorem dX8_factor_154 : decode cX8_factor 154 = .ok (.iload 4, 2) := by decide +kernel
theorem dX8_factor_156 : decode cX8_factor 156 = .ok (.iconst 2, 1) := by decide +kernel
theorem dX8_factor_157 : decode cX8_factor 157 = .ok (.if_icmp .ne 9, 3) := by decide +kernel
theorem dX8_factor_160 : decode cX8_factor 160 = .ok (.iload 5, 2) := by decide +kernel
theorem dX8_factor_162 : decode cX8_factor 162 = .ok (.i2l, 1) := by decide +kernel
theorem dX8_factor_163 : decode cX8_factor 163 = .ok (.goto 28, 3) := by decide +kernel
theorem dX8_factor_166 : decode cX8_factor 166 = .ok (.aload_n 0, 1) := by decide +kernel
theorem dX8_factor_167 : decode cX8_factor 167 = .ok (.iload 5, 2) := by decide +kernel
theorem dX8_factor_169 : decode cX8_factor 169 = .ok (.invokevirtual 295, 3) := by decide +kernel
theorem dX8_factor_172 : decode cX8_factor 172 = .ok (.aload_n 0, 1) := by decide +kernel
theorem dX8_factor_173 : decode cX8_factor 173 = .ok (.getfield 264, 3) := by decide +kernel
theorem dX8_factor_176 : decode cX8_factor 176 = .ok (.invokestatic 3, 3) := by decide +kernel
theorem dX8_factor_179 : decode cX8_factor 179 = .ok (.lmul, 1) := by decide +kernel
theorem dX8_factor_180 : decode cX8_factor 180 = .ok (.aload_n 0, 1) := by decide +kernel
theorem dX8_factor_181 : decode cX8_factor 181 = .ok (.iload 5, 2) := by decide +kernel
theorem dX8_factor_183 : decode cX8_factor 183 = .ok (.invokevirtual 292, 3) := by decide +kernel
theorem dX8_factor_186 : decode cX8_factor 186 = .ok (.iload 4, 2) := by decide +kernel
theorem dX8_factor_188 : decode cX8_factor 188 = .ok (.invokestatic 282, 3) := by decide +kernel
theorem dX8_factor_191 : decode cX8_factor 191 = .ok (.lreturn, 1) := by decide +kernel
noncomputable def fX8_factor_136 (k76 : (Nat → Int32) → (Nat → Int32) → Int32 → Int32 → (Nat → Int64) → Int64 → Int32 → Int32 → Int32 → Option (Int64 × (Nat → Int32) × Int32 × Int32 × (Nat → Int64) × Int64)) (t_mem : Nat → Int32) (t_row : Nat → Int32) (t_wide : Int32) (t_lost : Int32) (t_strain : Nat → Int64) (t_det : Int64) (v4 : Int32) (v5 : Int32) (v6 : Int32) : Option (Int64 × (Nat → Int32) × Int32 × Int32 × (Nat → Int64) × Int64) := k76 t_mem t_row t_wide t_lost t_strain t_det v4 v5 (v6 + 1)
noncomputable def fX8_factor_132 (k76 : (Nat → Int32) → (Nat → Int32) → Int32 → Int32 → (Nat → Int64) → Int64 → Int32 → Int32 → Int32 → Option (Int64 × (Nat → Int32) × Int32 × Int32 × (Nat → Int64) × Int64)) (t_mem : Nat → Int32) (t_row : Nat → Int32) (t_wide : Int32) (t_lost : Int32) (t_strain : Nat → Int64) (t_det : Int64) (v4 : Int32) (v6 : Int32) : Option (Int64 × (Nat → Int32) × Int32 × Int32 × (Nat → Int64) × Int64) := fX8_factor_136 k76 t_mem t_row t_wide t_lost t_strain t_det v4 v6 v6
noncomputable def fX8_factor_142  (t_mem : Nat → Int32) (t_row : Nat → Int32) (t_wide : Int32) (t_lost : Int32) (t_strain : Nat → Int64) (t_det : Int64) (v4 : Int32) (v5 : Int32) : Option (Int64 × (Nat → Int32) × Int32 × Int32 × (Nat → Int64) × Int64) := (if v5 = (-1) then some ((-1), t_row, t_wide, t_lost, t_strain, t_det) else (if v4 = 2 then some (v5.toInt64, t_row, t_wide, t_lost, t_strain, t_det) else (fX8_limitOf t_mem t_row v5).bind fun r38 => (fX8_along t_row t_strain v5).bind fun r40 => (fX8_part (r38 * (labs t_det)) r40 v4).bind fun r42 => some (r42, t_row, t_wide, t_lost, t_strain, t_det)))
noncomputable def fX8_factor_76  : Nat → (Nat → Int32) → (Nat → Int32) → Int32 → Int32 → (Nat → Int64) → Int64 → Int32 → Int32 → Int32 → Option (Int64 × (Nat → Int32) × Int32 × Int32 × (Nat → Int64) × Int64)
  | 0, _, _, _, _, _, _, _, _, _ => none
  | n + 1, t_mem, t_row, t_wide, t_lost, t_strain, t_det, v4, v5, v6 => (if t_wide ≤ v6 then fX8_factor_142 t_mem t_row t_wide t_lost t_strain t_det v4 v5 else (fX8_along t_row t_strain v6).bind fun r23 => (if (lg_cmp r23 0) = 0 then fX8_factor_136 (fX8_factor_76 n) t_mem t_row t_wide t_lost t_strain t_det v4 v5 v6 else (if v5 = (-1) then fX8_factor_132 (fX8_factor_76 n) t_mem t_row t_wide t_lost t_strain t_det v4 v6 else (fX8_limitOf t_mem t_row v6).bind fun r27 => (fX8_along t_row t_strain v5).bind fun r29 => (fX8_limitOf t_mem t_row v5).bind fun r31 => (fX8_along t_row t_strain v6).bind fun r33 => (if 0 ≤ (lg_cmp (r27 * r29) (r31 * r33)) then fX8_factor_136 (fX8_factor_76 n) t_mem t_row t_wide t_lost t_strain t_det v4 v5 v6 else fX8_factor_132 (fX8_factor_76 n) t_mem t_row t_wide t_lost t_strain t_det v4 v6))))
theorem fX8_factor_76_z  (t_mem : Nat → Int32) (t_row : Nat → Int32) (t_wide : Int32) (t_lost : Int32) (t_strain : Nat → Int64) (t_det : Int64) (v4 : Int32) (v5 : Int32) (v6 : Int32) : fX8_factor_76  0 t_mem t_row t_wide t_lost t_strain t_det v4 v5 v6 = none := rfl
theorem fX8_factor_76_s  (n : Nat) (t_mem : Nat → Int32) (t_row : Nat → Int32) (t_wide : Int32) (t_lost : Int32) (t_strain : Nat → Int64) (t_det : Int64) (v4 : Int32) (v5 : Int32) (v6 : Int32) : fX8_factor_76  (n + 1) t_mem t_row t_wide t_lost t_strain t_det v4 v5 v6 = (if t_wide ≤ v6 then fX8_factor_142 t_mem t_row t_wide t_lost t_strain t_det v4 v5 else (fX8_along t_row t_strain v6).bind fun r23 => (if (lg_cmp r23 0) = 0 then fX8_factor_136 (fX8_factor_76 n) t_mem t_row t_wide t_lost t_strain t_det v4 v5 v6 else (if v5 = (-1) then fX8_factor_132 (fX8_factor_76 n) t_mem t_row t_wide t_lost t_strain t_det v4 v6 else (fX8_limitOf t_mem t_row v6).bind fun r27 => (fX8_along t_row t_strain v5).bind fun r29 => (fX8_limitOf t_mem t_row v5).bind fun r31 => (fX8_along t_row t_strain v6).bind fun r33 => (if 0 ≤ (lg_cmp (r27 * r29) (r31 * r33)) then fX8_factor_136 (fX8_factor_76 n) t_mem t_row t_wide t_lost t_strain t_det v4 v5 v6 else fX8_factor_132 (fX8_factor_76 n) t_mem t_row t_wide t_lost t_strain t_det v4 v6)))) := rfl
noncomputable def fX8_factor  (t_mem : Nat → Int32) (t_row : Nat → Int32) (t_wide : Int32) (t_lost : Int32) (t_strain : Nat → Int64) (t_det : Int64) (v1 : Int32) (v2 : Int32) (v3 : Int32) (v4 : Int32) : Option (Int64 × (Nat → Int32) × Int32 × Int32 × (Nat → Int64) × Int64) := (fX8_is t_mem).bind fun r1 => (if r1 = 0 then some ((-2), t_row, t_wide, t_lost, t_strain, t_det) else (if (fX8_areLoads v1 v2 v3) = 0 then some ((-2), t_row, t_wide, t_lost, t_strain, t_det) else (if (fX8_in v4.toInt64 0 2) = 0 then some ((-2), t_row, t_wide, t_lost, t_strain, t_det) else ob3 (fX8_laysPlate t_mem t_row t_wide t_lost) fun w10 w11 w12 => ob2 (fX8_laysStrains t_mem w10 w11 w12 t_strain t_det 0 v1.toInt64 v2.toInt64 v3.toInt64) fun w15 w16 => (if (lg_cmp w16 0) = 0 then some ((-6), w10, w11, w12, w15, w16) else (fX8_warpHere t_mem w10 w11 w12).bind fun r19 => (if (lg_cmp r19 0) = 0 then fX8_factor_76 FU t_mem w10 w11 w12 w15 w16 v4 (-1) 0 else some ((-6), w10, w11, w12, w15, w16))))))
set_option maxHeartbeats 4000000 in
set_option maxRecDepth 100000 in
theorem ctX8_factor (l : Launch) (g : GT) (sz : Nat) (a_t : Nat → Nat) (t_acted : Int32) (t_taped : Int32) (t_faultKind : Int32) (t_faultPlace : Int32) (t_at : Int32) (t_begin : Int32) (t_token : Int32) (t_value : Int32) (t_bad : Int32) (t_wide : Int32) (t_lost : Int32) (t_det : Int64) (t_mask : Int32) (t_mode : Int32) (t_wanted : Int32) (t_orders : Int32) (t_foundAt : Int32) (t_foundBy : Int64) (t_unlikes : Int32) (t_mem : Nat → Int32) (t_row : Nat → Int32) (t_strain : Nat → Int64) (v1 : Int32) (v2 : Int32) (v3 : Int32) (v4 : Int32) (o : Int64) (o_t_row : Nat → Int32) (o_t_wide : Int32) (o_t_lost : Int32) (o_t_strain : Nat → Int64) (o_t_det : Int64) (h : fX8_factor t_mem t_row t_wide t_lost t_strain t_det v1 v2 v3 v4 = some (o, o_t_row, o_t_wide, o_t_lost, o_t_strain, o_t_det)) : Met l yX8_factor (Cond.code yX8_factor cX8_factor 7 (some .long) :: Tw) ⟨5, 0, 0, 134⟩ (va_Pc [.ref ((a_t 0)), .int v1, .int v2, .int v3, .int v4] (rwB g [((a_t 0), .inr (7, [.ref (a_t 1), .ref (a_t 2), .int t_acted, .ref (a_t 4), .ref (a_t 5), .ref (a_t 6), .ref (a_t 7), .ref (a_t 8), .ref (a_t 9), .int t_taped, .int t_faultKind, .int t_faultPlace, .int t_at, .int t_begin, .int t_token, .int t_value, .int t_bad, .ref (a_t 18), .ref (a_t 19), .ref (a_t 20), .int t_wide, .int t_lost, .ref (a_t 23), .long t_det, .ref (a_t 25), .int t_mask, .int t_mode, .int t_wanted, .int t_orders, .int t_foundAt, .long t_foundBy, .ref (a_t 32), .ref (a_t 33), .int t_unlikes, .ref (a_t 35), .ref (a_t 36)])), ((a_t 1), .inl (g.2.2.1 0, 27, .inl t_mem)), ((a_t 20), .inl (g.2.2.1 0, 8, .inl t_row)), ((a_t 23), .inl (g.2.2.1 1, 3, .inr (.inl t_strain)))] sz)) (va_Ql (fun x (_ : Nat → Nat) => x = o) (fun u => rwE g (va_A [((a_t 0), .inr (7, [.ref (a_t 1), .ref (a_t 2), .int t_acted, .ref (a_t 4), .ref (a_t 5), .ref (a_t 6), .ref (a_t 7), .ref (a_t 8), .ref (a_t 9), .int t_taped, .int t_faultKind, .int t_faultPlace, .int t_at, .int t_begin, .int t_token, .int t_value, .int t_bad, .ref (a_t 18), .ref (a_t 19), .ref (a_t 20), .int t_wide, .int t_lost, .ref (a_t 23), .long t_det, .ref (a_t 25), .int t_mask, .int t_mode, .int t_wanted, .int t_orders, .int t_foundAt, .long t_foundBy, .ref (a_t 32), .ref (a_t 33), .int t_unlikes, .ref (a_t 35), .ref (a_t 36)])), ((a_t 1), .inl (g.2.2.1 0, 27, .inl t_mem)), ((a_t 20), .inl (g.2.2.1 0, 8, .inl t_row)), ((a_t 23), .inl (g.2.2.1 1, 3, .inr (.inl t_strain)))] sz) [((a_t 0), .inr (7, [.ref (a_t 1), .ref (a_t 2), .int t_acted, .ref (a_t 4), .ref (a_t 5), .ref (a_t 6), .ref (a_t 7), .ref (a_t 8), .ref (a_t 9), .int t_taped, .int t_faultKind, .int t_faultPlace, .int t_at, .int t_begin, .int t_token, .int t_value, .int t_bad, .ref (a_t 18), .ref (a_t 19), .ref (a_t 20), .int o_t_wide, .int o_t_lost, .ref (a_t 23), .long o_t_det, .ref (a_t 25), .int t_mask, .int t_mode, .int t_wanted, .int t_orders, .int t_foundAt, .long t_foundBy, .ref (a_t 32), .ref (a_t 33), .int t_unlikes, .ref (a_t 35), .ref (a_t 36)])), ((a_t 1), .inl (g.2.2.1 0, 27, .inl t_mem)), ((a_t 20), .inl (g.2.2.1 0, 8, .inl o_t_row)), ((a_t 23), .inl (g.2.2.1 1, 3, .inr (.inl o_t_strain)))]) (va_A [((a_t 0), .inr (7, [.ref (a_t 1), .ref (a_t 2), .int t_acted, .ref (a_t 4), .ref (a_t 5), .ref (a_t 6), .ref (a_t 7), .ref (a_t 8), .ref (a_t 9), .int t_taped, .int t_faultKind, .int t_faultPlace, .int t_at, .int t_begin, .int t_token, .int t_value, .int t_bad, .ref (a_t 18), .ref (a_t 19), .ref (a_t 20), .int t_wide, .int t_lost, .ref (a_t 23), .long t_det, .ref (a_t 25), .int t_mask, .int t_mode, .int t_wanted, .int t_orders, .int t_foundAt, .long t_foundBy, .ref (a_t 32), .ref (a_t 33), .int t_unlikes, .ref (a_t 35), .ref (a_t 36)])), ((a_t 1), .inl (g.2.2.1 0, 27, .inl t_mem)), ((a_t 20), .inl (g.2.2.1 0, 8, .inl t_row)), ((a_t 23), .inl (g.2.2.1 1, 3, .inr (.inl t_strain)))] sz)) 0 0 (va_A [((a_t 0), .inr (7, [.ref (a_t 1), .ref (a_t 2), .int t_acted, .ref (a_t 4), .ref (a_t 5), .ref (a_t 6), .ref (a_t 7), .ref (a_t 8), .ref (a_t 9), .int t_taped, .int t_faultKind, .int t_faultPlace, .int t_at, .int t_begin, .int t_token, .int t_value, .int t_bad, .ref (a_t 18), .ref (a_t 19), .ref (a_t 20), .int t_wide, .int t_lost, .ref (a_t 23), .long t_det, .ref (a_t 25), .int t_mask, .int t_mode, .int t_wanted, .int t_orders, .int t_foundAt, .long t_foundBy, .ref (a_t 32), .ref (a_t 33), .int t_unlikes, .ref (a_t 35), .ref (a_t 36)])), ((a_t 1), .inl (g.2.2.1 0, 27, .inl t_mem)), ((a_t 20), .inl (g.2.2.1 0, 8, .inl t_row)), ((a_t 23), .inl (g.2.2.1 1, 3, .inr (.inl t_strain)))] sz) := by
  refine rw_metl (by decide) (Nat.le_of_ble_eq_true rfl) (lv0 := [(0, .ref ((a_t 0))), (1, .int v1), (2, .int v2), (3, .int v3), (4, .int v4)]) rfl ?_
  intro p e s m args below meth c ls Q A cx hret hG hAb hb0 hA hP hD hl
  have hx := cx.1
  have hb := cx.2.1
  have hG0 := hG
  have hGk : ∀ {H : Heap} {locs : List Loc}, va_S A s.heap H locs → GE g s H := fun hS => hG0.keptS hAb hS
  have hSb : ∀ {H : Heap} {locs : List Loc}, va_S A s.heap H locs → va_S (fun a => g.1 ≤ a) s.heap H locs := fun hS => ⟨hS.1, fun q h1 h2 => hS.2.1 q h1 (fun z => h2 (hAb q z)), fun l hl => hAb _ (hS.2.2 l hl)⟩
  have hS : va_S A s.heap s.heap [] := va_S.rf
  have hrt : ∀ (u : Nat → Nat) (pc : Nat) (ls : Array Slot) (v : Int64) (x_t_row : Nat → Int32) (x_t_wide : Int32) (x_t_lost : Int32) (x_t_strain : Nat → Int64) (x_t_det : Int64) (H : Heap) (locs : List Loc), decode cX8_factor pc = .ok (.lreturn, 1) → some (v, x_t_row, x_t_wide, x_t_lost, x_t_strain, x_t_det) = some (o, o_t_row, o_t_wide, o_t_lost, o_t_strain, o_t_det) → va_P g.2.1 vwCl [((a_t 0), .inr (7, [.ref (a_t 1), .ref (a_t 2), .int t_acted, .ref (a_t 4), .ref (a_t 5), .ref (a_t 6), .ref (a_t 7), .ref (a_t 8), .ref (a_t 9), .int t_taped, .int t_faultKind, .int t_faultPlace, .int t_at, .int t_begin, .int t_token, .int t_value, .int t_bad, .ref (a_t 18), .ref (a_t 19), .ref (a_t 20), .int x_t_wide, .int x_t_lost, .ref (a_t 23), .long x_t_det, .ref (a_t 25), .int t_mask, .int t_mode, .int t_wanted, .int t_orders, .int t_foundAt, .long t_foundBy, .ref (a_t 32), .ref (a_t 33), .int t_unlikes, .ref (a_t 35), .ref (a_t 36)])), ((a_t 1), .inl (g.2.2.1 0, 27, .inl t_mem)), ((a_t 20), .inl (g.2.2.1 0, 8, .inl x_t_row)), ((a_t 23), .inl (g.2.2.1 1, 3, .inr (.inl x_t_strain)))] H → va_D A [((a_t 0), .inr (7, [.ref (a_t 1), .ref (a_t 2), .int t_acted, .ref (a_t 4), .ref (a_t 5), .ref (a_t 6), .ref (a_t 7), .ref (a_t 8), .ref (a_t 9), .int t_taped, .int t_faultKind, .int t_faultPlace, .int t_at, .int t_begin, .int t_token, .int t_value, .int t_bad, .ref (a_t 18), .ref (a_t 19), .ref (a_t 20), .int x_t_wide, .int x_t_lost, .ref (a_t 23), .long x_t_det, .ref (a_t 25), .int t_mask, .int t_mode, .int t_wanted, .int t_orders, .int t_foundAt, .long t_foundBy, .ref (a_t 32), .ref (a_t 33), .int t_unlikes, .ref (a_t 35), .ref (a_t 36)])), ((a_t 1), .inl (g.2.2.1 0, 27, .inl t_mem)), ((a_t 20), .inl (g.2.2.1 0, 8, .inl x_t_row)), ((a_t 23), .inl (g.2.2.1 1, 3, .inr (.inl x_t_strain)))] → va_S A s.heap H locs → W p l e ⟨5, 0, 0, 134⟩ s m args below meth c H locs 0 0 Q (F0 m pc ls [.long v]) := by
    intro u pc ls v x_t_row x_t_wide x_t_lost x_t_strain x_t_det H locs hd h hP hD hS
    cases h
    exact hret u _ _ _ _ _ hd rfl hP hD hS
  have w136 : ∀ (k76 : (Nat → Int32) → (Nat → Int32) → Int32 → Int32 → (Nat → Int64) → Int64 → Int32 → Int32 → Int32 → Option (Int64 × (Nat → Int32) × Int32 × Int32 × (Nat → Int64) × Int64)) (hk76 : ∀ (t_row : Nat → Int32) (t_wide : Int32) (t_lost : Int32) (t_strain : Nat → Int64) (t_det : Int64) (v4 : Int32) (v5 : Int32) (v6 : Int32) (H : Heap) (locs : List Loc), va_P g.2.1 vwCl [((a_t 0), .inr (7, [.ref (a_t 1), .ref (a_t 2), .int t_acted, .ref (a_t 4), .ref (a_t 5), .ref (a_t 6), .ref (a_t 7), .ref (a_t 8), .ref (a_t 9), .int t_taped, .int t_faultKind, .int t_faultPlace, .int t_at, .int t_begin, .int t_token, .int t_value, .int t_bad, .ref (a_t 18), .ref (a_t 19), .ref (a_t 20), .int t_wide, .int t_lost, .ref (a_t 23), .long t_det, .ref (a_t 25), .int t_mask, .int t_mode, .int t_wanted, .int t_orders, .int t_foundAt, .long t_foundBy, .ref (a_t 32), .ref (a_t 33), .int t_unlikes, .ref (a_t 35), .ref (a_t 36)])), ((a_t 1), .inl (g.2.2.1 0, 27, .inl t_mem)), ((a_t 20), .inl (g.2.2.1 0, 8, .inl t_row)), ((a_t 23), .inl (g.2.2.1 1, 3, .inr (.inl t_strain)))] H → va_D A [((a_t 0), .inr (7, [.ref (a_t 1), .ref (a_t 2), .int t_acted, .ref (a_t 4), .ref (a_t 5), .ref (a_t 6), .ref (a_t 7), .ref (a_t 8), .ref (a_t 9), .int t_taped, .int t_faultKind, .int t_faultPlace, .int t_at, .int t_begin, .int t_token, .int t_value, .int t_bad, .ref (a_t 18), .ref (a_t 19), .ref (a_t 20), .int t_wide, .int t_lost, .ref (a_t 23), .long t_det, .ref (a_t 25), .int t_mask, .int t_mode, .int t_wanted, .int t_orders, .int t_foundAt, .long t_foundBy, .ref (a_t 32), .ref (a_t 33), .int t_unlikes, .ref (a_t 35), .ref (a_t 36)])), ((a_t 1), .inl (g.2.2.1 0, 27, .inl t_mem)), ((a_t 20), .inl (g.2.2.1 0, 8, .inl t_row)), ((a_t 23), .inl (g.2.2.1 1, 3, .inr (.inl t_strain)))] → va_S A s.heap H locs → ∀ (ls : Array Slot), lv_has ls 7 [(0, .ref ((a_t 0))), (4, .int v4), (5, .int v5), (6, .int v6)] → k76 t_mem t_row t_wide t_lost t_strain t_det v4 v5 v6 = some (o, o_t_row, o_t_wide, o_t_lost, o_t_strain, o_t_det) → W p l e ⟨5, 0, 0, 134⟩ s m args below meth c H locs 0 0 Q (F0 m 76 ls [])) (t_row : Nat → Int32) (t_wide : Int32) (t_lost : Int32) (t_strain : Nat → Int64) (t_det : Int64) (v4 : Int32) (v5 : Int32) (v6 : Int32) (H : Heap) (locs : List Loc), va_P g.2.1 vwCl [((a_t 0), .inr (7, [.ref (a_t 1), .ref (a_t 2), .int t_acted, .ref (a_t 4), .ref (a_t 5), .ref (a_t 6), .ref (a_t 7), .ref (a_t 8), .ref (a_t 9), .int t_taped, .int t_faultKind, .int t_faultPlace, .int t_at, .int t_begin, .int t_token, .int t_value, .int t_bad, .ref (a_t 18), .ref (a_t 19), .ref (a_t 20), .int t_wide, .int t_lost, .ref (a_t 23), .long t_det, .ref (a_t 25), .int t_mask, .int t_mode, .int t_wanted, .int t_orders, .int t_foundAt, .long t_foundBy, .ref (a_t 32), .ref (a_t 33), .int t_unlikes, .ref (a_t 35), .ref (a_t 36)])), ((a_t 1), .inl (g.2.2.1 0, 27, .inl t_mem)), ((a_t 20), .inl (g.2.2.1 0, 8, .inl t_row)), ((a_t 23), .inl (g.2.2.1 1, 3, .inr (.inl t_strain)))] H → va_D A [((a_t 0), .inr (7, [.ref (a_t 1), .ref (a_t 2), .int t_acted, .ref (a_t 4), .ref (a_t 5), .ref (a_t 6), .ref (a_t 7), .ref (a_t 8), .ref (a_t 9), .int t_taped, .int t_faultKind, .int t_faultPlace, .int t_at, .int t_begin, .int t_token, .int t_value, .int t_bad, .ref (a_t 18), .ref (a_t 19), .ref (a_t 20), .int t_wide, .int t_lost, .ref (a_t 23), .long t_det, .ref (a_t 25), .int t_mask, .int t_mode, .int t_wanted, .int t_orders, .int t_foundAt, .long t_foundBy, .ref (a_t 32), .ref (a_t 33), .int t_unlikes, .ref (a_t 35), .ref (a_t 36)])), ((a_t 1), .inl (g.2.2.1 0, 27, .inl t_mem)), ((a_t 20), .inl (g.2.2.1 0, 8, .inl t_row)), ((a_t 23), .inl (g.2.2.1 1, 3, .inr (.inl t_strain)))] → va_S A s.heap H locs → ∀ (ls : Array Slot), lv_has ls 7 [(0, .ref ((a_t 0))), (4, .int v4), (5, .int v5), (6, .int v6)] → fX8_factor_136 k76 t_mem t_row t_wide t_lost t_strain t_det v4 v5 v6 = some (o, o_t_row, o_t_wide, o_t_lost, o_t_strain, o_t_det) → W p l e ⟨5, 0, 0, 134⟩ s m args below meth c H locs 0 0 Q (F0 m 136 ls []) := by
    intro k76 hk76 t_row t_wide t_lost t_strain t_det v4 v5 v6 H locs hP hD hS ls hl h
    unfold fX8_factor_136 at h
    have hG := hGk hS
    refine lv_iinc (v := v6 + 1) (lv' := [(6, .int (v6 + 1)), (0, .ref ((a_t 0))), (4, .int v4), (5, .int v5)]) hx hb dX8_factor_136 hl (k := 3) rfl rfl (by decide) rfl (fun ls hl => ?_)
    refine lv_goto (tgt := 76) hx hb dX8_factor_139 (by decide) ?_
    exact hk76 t_row t_wide t_lost t_strain t_det v4 v5 (v6 + 1) _ _ hP hD hS _ (lv_sub hl [1, 2, 3, 0] rfl) h
  have w132 : ∀ (k76 : (Nat → Int32) → (Nat → Int32) → Int32 → Int32 → (Nat → Int64) → Int64 → Int32 → Int32 → Int32 → Option (Int64 × (Nat → Int32) × Int32 × Int32 × (Nat → Int64) × Int64)) (hk76 : ∀ (t_row : Nat → Int32) (t_wide : Int32) (t_lost : Int32) (t_strain : Nat → Int64) (t_det : Int64) (v4 : Int32) (v5 : Int32) (v6 : Int32) (H : Heap) (locs : List Loc), va_P g.2.1 vwCl [((a_t 0), .inr (7, [.ref (a_t 1), .ref (a_t 2), .int t_acted, .ref (a_t 4), .ref (a_t 5), .ref (a_t 6), .ref (a_t 7), .ref (a_t 8), .ref (a_t 9), .int t_taped, .int t_faultKind, .int t_faultPlace, .int t_at, .int t_begin, .int t_token, .int t_value, .int t_bad, .ref (a_t 18), .ref (a_t 19), .ref (a_t 20), .int t_wide, .int t_lost, .ref (a_t 23), .long t_det, .ref (a_t 25), .int t_mask, .int t_mode, .int t_wanted, .int t_orders, .int t_foundAt, .long t_foundBy, .ref (a_t 32), .ref (a_t 33), .int t_unlikes, .ref (a_t 35), .ref (a_t 36)])), ((a_t 1), .inl (g.2.2.1 0, 27, .inl t_mem)), ((a_t 20), .inl (g.2.2.1 0, 8, .inl t_row)), ((a_t 23), .inl (g.2.2.1 1, 3, .inr (.inl t_strain)))] H → va_D A [((a_t 0), .inr (7, [.ref (a_t 1), .ref (a_t 2), .int t_acted, .ref (a_t 4), .ref (a_t 5), .ref (a_t 6), .ref (a_t 7), .ref (a_t 8), .ref (a_t 9), .int t_taped, .int t_faultKind, .int t_faultPlace, .int t_at, .int t_begin, .int t_token, .int t_value, .int t_bad, .ref (a_t 18), .ref (a_t 19), .ref (a_t 20), .int t_wide, .int t_lost, .ref (a_t 23), .long t_det, .ref (a_t 25), .int t_mask, .int t_mode, .int t_wanted, .int t_orders, .int t_foundAt, .long t_foundBy, .ref (a_t 32), .ref (a_t 33), .int t_unlikes, .ref (a_t 35), .ref (a_t 36)])), ((a_t 1), .inl (g.2.2.1 0, 27, .inl t_mem)), ((a_t 20), .inl (g.2.2.1 0, 8, .inl t_row)), ((a_t 23), .inl (g.2.2.1 1, 3, .inr (.inl t_strain)))] → va_S A s.heap H locs → ∀ (ls : Array Slot), lv_has ls 7 [(0, .ref ((a_t 0))), (4, .int v4), (5, .int v5), (6, .int v6)] → k76 t_mem t_row t_wide t_lost t_strain t_det v4 v5 v6 = some (o, o_t_row, o_t_wide, o_t_lost, o_t_strain, o_t_det) → W p l e ⟨5, 0, 0, 134⟩ s m args below meth c H locs 0 0 Q (F0 m 76 ls [])) (t_row : Nat → Int32) (t_wide : Int32) (t_lost : Int32) (t_strain : Nat → Int64) (t_det : Int64) (v4 : Int32) (v6 : Int32) (H : Heap) (locs : List Loc), va_P g.2.1 vwCl [((a_t 0), .inr (7, [.ref (a_t 1), .ref (a_t 2), .int t_acted, .ref (a_t 4), .ref (a_t 5), .ref (a_t 6), .ref (a_t 7), .ref (a_t 8), .ref (a_t 9), .int t_taped, .int t_faultKind, .int t_faultPlace, .int t_at, .int t_begin, .int t_token, .int t_value, .int t_bad, .ref (a_t 18), .ref (a_t 19), .ref (a_t 20), .int t_wide, .int t_lost, .ref (a_t 23), .long t_det, .ref (a_t 25), .int t_mask, .int t_mode, .int t_wanted, .int t_orders, .int t_foundAt, .long t_foundBy, .ref (a_t 32), .ref (a_t 33), .int t_unlikes, .ref (a_t 35), .ref (a_t 36)])), ((a_t 1), .inl (g.2.2.1 0, 27, .inl t_mem)), ((a_t 20), .inl (g.2.2.1 0, 8, .inl t_row)), ((a_t 23), .inl (g.2.2.1 1, 3, .inr (.inl t_strain)))] H → va_D A [((a_t 0), .inr (7, [.ref (a_t 1), .ref (a_t 2), .int t_acted, .ref (a_t 4), .ref (a_t 5), .ref (a_t 6), .ref (a_t 7), .ref (a_t 8), .ref (a_t 9), .int t_taped, .int t_faultKind, .int t_faultPlace, .int t_at, .int t_begin, .int t_token, .int t_value, .int t_bad, .ref (a_t 18), .ref (a_t 19), .ref (a_t 20), .int t_wide, .int t_lost, .ref (a_t 23), .long t_det, .ref (a_t 25), .int t_mask, .int t_mode, .int t_wanted, .int t_orders, .int t_foundAt, .long t_foundBy, .ref (a_t 32), .ref (a_t 33), .int t_unlikes, .ref (a_t 35), .ref (a_t 36)])), ((a_t 1), .inl (g.2.2.1 0, 27, .inl t_mem)), ((a_t 20), .inl (g.2.2.1 0, 8, .inl t_row)), ((a_t 23), .inl (g.2.2.1 1, 3, .inr (.inl t_strain)))] → va_S A s.heap H locs → ∀ (ls : Array Slot), lv_has ls 7 [(0, .ref ((a_t 0))), (4, .int v4), (6, .int v6)] → fX8_factor_132 k76 t_mem t_row t_wide t_lost t_strain t_det v4 v6 = some (o, o_t_row, o_t_wide, o_t_lost, o_t_strain, o_t_det) → W p l e ⟨5, 0, 0, 134⟩ s m args below meth c H locs 0 0 Q (F0 m 132 ls []) := by
    intro k76 hk76 t_row t_wide t_lost t_strain t_det v4 v6 H locs hP hD hS ls hl h
    unfold fX8_factor_132 at h
    have hG := hGk hS
    refine lv_iload hx hb dX8_factor_132 (lv_at hl 2 rfl) ?_
    refine lv_istore (lv' := [(5, .int v6), (0, .ref ((a_t 0))), (4, .int v4), (6, .int v6)]) hx hb dX8_factor_134 hl (by decide) rfl (fun ls hl => ?_)
    exact w136 _ hk76 t_row t_wide t_lost t_strain t_det v4 v6 v6 _ _ hP hD hS _ (lv_sub hl [1, 2, 0, 3] rfl) h
  have w142 : ∀ (t_row : Nat → Int32) (t_wide : Int32) (t_lost : Int32) (t_strain : Nat → Int64) (t_det : Int64) (v4 : Int32) (v5 : Int32) (H : Heap) (locs : List Loc), va_P g.2.1 vwCl [((a_t 0), .inr (7, [.ref (a_t 1), .ref (a_t 2), .int t_acted, .ref (a_t 4), .ref (a_t 5), .ref (a_t 6), .ref (a_t 7), .ref (a_t 8), .ref (a_t 9), .int t_taped, .int t_faultKind, .int t_faultPlace, .int t_at, .int t_begin, .int t_token, .int t_value, .int t_bad, .ref (a_t 18), .ref (a_t 19), .ref (a_t 20), .int t_wide, .int t_lost, .ref (a_t 23), .long t_det, .ref (a_t 25), .int t_mask, .int t_mode, .int t_wanted, .int t_orders, .int t_foundAt, .long t_foundBy, .ref (a_t 32), .ref (a_t 33), .int t_unlikes, .ref (a_t 35), .ref (a_t 36)])), ((a_t 1), .inl (g.2.2.1 0, 27, .inl t_mem)), ((a_t 20), .inl (g.2.2.1 0, 8, .inl t_row)), ((a_t 23), .inl (g.2.2.1 1, 3, .inr (.inl t_strain)))] H → va_D A [((a_t 0), .inr (7, [.ref (a_t 1), .ref (a_t 2), .int t_acted, .ref (a_t 4), .ref (a_t 5), .ref (a_t 6), .ref (a_t 7), .ref (a_t 8), .ref (a_t 9), .int t_taped, .int t_faultKind, .int t_faultPlace, .int t_at, .int t_begin, .int t_token, .int t_value, .int t_bad, .ref (a_t 18), .ref (a_t 19), .ref (a_t 20), .int t_wide, .int t_lost, .ref (a_t 23), .long t_det, .ref (a_t 25), .int t_mask, .int t_mode, .int t_wanted, .int t_orders, .int t_foundAt, .long t_foundBy, .ref (a_t 32), .ref (a_t 33), .int t_unlikes, .ref (a_t 35), .ref (a_t 36)])), ((a_t 1), .inl (g.2.2.1 0, 27, .inl t_mem)), ((a_t 20), .inl (g.2.2.1 0, 8, .inl t_row)), ((a_t 23), .inl (g.2.2.1 1, 3, .inr (.inl t_strain)))] → va_S A s.heap H locs → ∀ (ls : Array Slot), lv_has ls 7 [(0, .ref ((a_t 0))), (4, .int v4), (5, .int v5)] → fX8_factor_142  t_mem t_row t_wide t_lost t_strain t_det v4 v5 = some (o, o_t_row, o_t_wide, o_t_lost, o_t_strain, o_t_det) → W p l e ⟨5, 0, 0, 134⟩ s m args below meth c H locs 0 0 Q (F0 m 142 ls []) := by
    intro t_row t_wide t_lost t_strain t_det v4 v5 H locs hP hD hS ls hl h
    unfold fX8_factor_142 at h
    have hG := hGk hS
    refine lv_iload hx hb dX8_factor_142 (lv_at hl 2 rfl) ?_
    refine lv_iconst (v := -1) hx hb dX8_factor_144 (by decide) ?_
    refine lv_icmp_ne (tgt := 154) hx hb dX8_factor_145 (by decide) (fun c36 => ?_) (fun c36 => ?_)
    · have h := itn c36 h
      refine lv_iload hx hb dX8_factor_154 (lv_at hl 1 rfl) ?_
      refine lv_iconst (v := 2) hx hb dX8_factor_156 (by decide) ?_
      refine lv_icmp_ne (tgt := 166) hx hb dX8_factor_157 (by decide) (fun c37 => ?_) (fun c37 => ?_)
      · have h := itn c37 h
        refine lv_aload_n hx hb dX8_factor_166 rfl (lv_at hl 0 rfl) ?_
        refine lv_iload hx hb dX8_factor_167 (lv_at hl 2 rfl) ?_
        obtain ⟨r38, hr39, h⟩ := bnd h
        refine ro_l (runV (As := [.int v5]) (rest := []) cx hl.1 (ctX8_limitOf l g a_t t_acted t_taped t_faultKind t_faultPlace t_at t_begin t_token t_value t_bad t_wide t_lost t_det t_mask t_mode t_wanted t_orders t_foundAt t_foundBy t_unlikes t_mem t_row v5 r38 hr39) kmX8_limitOf kvX8_limitOf lm_X8_295 ⟨rfl, rfl⟩ ⟨Nat.le_of_ble_eq_true rfl, Nat.le_of_ble_eq_true rfl⟩ (roV (q0 := 0) (ci := 7) hG (hP.sub [0, 1, 2] rfl) hP rfl rfl) rfl rfl (Nat.le_of_ble_eq_true rfl) dX8_factor_169 ⟨Nat.le_of_ble_eq_true rfl, Nat.le_of_ble_eq_true rfl⟩) ?_
        refine lv_aload_n hx hb dX8_factor_172 rfl (lv_at hl 0 rfl) ?_
        refine xa_get (C := RX8) (T := TX8) (N := 36) cx hG hP 0 rfl rfl uX8 23 (by decide) lf_X8_264 rfl dX8_factor_173 ?_
        refine xm_labs cx hl.1 lm_X8_3 ⟨ksJ9_abs_067f4, kmJ9_abs_067f4.2.1, kmJ9_abs_067f4.1⟩ (Nat.le_of_ble_eq_true rfl) (Nat.le_of_ble_eq_true rfl) (Nat.le_of_ble_eq_true rfl) (Nat.le_of_ble_eq_true rfl) dX8_factor_176 ?_
        refine lv_lmul hx hb dX8_factor_179 ?_
        refine lv_aload_n hx hb dX8_factor_180 rfl (lv_at hl 0 rfl) ?_
        refine lv_iload hx hb dX8_factor_181 (lv_at hl 2 rfl) ?_
        obtain ⟨r40, hr41, h⟩ := bnd h
        refine ro_l (runV (As := [.int v5]) (rest := [.long (r38 * (labs t_det))]) cx hl.1 (ctX8_along l g a_t t_acted t_taped t_faultKind t_faultPlace t_at t_begin t_token t_value t_bad t_wide t_lost t_det t_mask t_mode t_wanted t_orders t_foundAt t_foundBy t_unlikes t_row t_strain v5 r40 hr41) kmX8_along kvX8_along lm_X8_292 ⟨rfl, rfl⟩ ⟨Nat.le_of_ble_eq_true rfl, Nat.le_of_ble_eq_true rfl⟩ (roV (q0 := 0) (ci := 7) hG (hP.sub [0, 2, 3] rfl) hP rfl rfl) rfl rfl (Nat.le_of_ble_eq_true rfl) dX8_factor_183 ⟨Nat.le_of_ble_eq_true rfl, Nat.le_of_ble_eq_true rfl⟩) ?_
        refine lv_iload hx hb dX8_factor_186 (lv_at hl 1 rfl) ?_
        obtain ⟨r42, hr43, h⟩ := bnd h
        refine ro_l (runS (As := [.long (r38 * (labs t_det)), .long r40, .int v4]) (rest := []) cx hl.1 (ctX8_part l g (r38 * (labs t_det)) r40 v4 r42 hr43) kmX8_part ksX8_part lm_X8_282 ⟨rfl, rfl⟩ ⟨Nat.le_of_ble_eq_true rfl, Nat.le_of_ble_eq_true rfl⟩ (roS hG (hP.sub [] rfl)) rfl rfl (Nat.le_of_ble_eq_true rfl) dX8_factor_188 ⟨Nat.le_of_ble_eq_true rfl, Nat.le_of_ble_eq_true rfl⟩) ?_
        exact hrt (fun _ => 0) _ _ r42 t_row t_wide t_lost t_strain t_det _ _ dX8_factor_191 h (hP.sub [0, 1, 2, 3] rfl) (hD.sub [0, 1, 2, 3] (by decide) rfl) hS
      · have h := itp c37 h
        refine lv_iload hx hb dX8_factor_160 (lv_at hl 2 rfl) ?_
        refine lv_i2l (v := v5.toInt64) hx hb dX8_factor_162 rfl ?_
        refine lv_goto (tgt := 191) hx hb dX8_factor_163 (by decide) ?_
        exact hrt (fun _ => 0) _ _ v5.toInt64 t_row t_wide t_lost t_strain t_det _ _ dX8_factor_191 h (hP.sub [0, 1, 2, 3] rfl) (hD.sub [0, 1, 2, 3] (by decide) rfl) hS
    · have h := itp c36 h
      refine lv_ldc2 (own := RX8) (v := -1) hx hb cx.2.2.2.1 (cx.2.2.2.2 _ cl_X8_298) dX8_factor_148 ?_
      refine lv_goto (tgt := 191) hx hb dX8_factor_151 (by decide) ?_
      exact hrt (fun _ => 0) _ _ ((-1)) t_row t_wide t_lost t_strain t_det _ _ dX8_factor_191 h (hP.sub [0, 1, 2, 3] rfl) (hD.sub [0, 1, 2, 3] (by decide) rfl) hS
  have w76 : ∀ (n : Nat) (t_row : Nat → Int32) (t_wide : Int32) (t_lost : Int32) (t_strain : Nat → Int64) (t_det : Int64) (v4 : Int32) (v5 : Int32) (v6 : Int32) (H : Heap) (locs : List Loc), va_P g.2.1 vwCl [((a_t 0), .inr (7, [.ref (a_t 1), .ref (a_t 2), .int t_acted, .ref (a_t 4), .ref (a_t 5), .ref (a_t 6), .ref (a_t 7), .ref (a_t 8), .ref (a_t 9), .int t_taped, .int t_faultKind, .int t_faultPlace, .int t_at, .int t_begin, .int t_token, .int t_value, .int t_bad, .ref (a_t 18), .ref (a_t 19), .ref (a_t 20), .int t_wide, .int t_lost, .ref (a_t 23), .long t_det, .ref (a_t 25), .int t_mask, .int t_mode, .int t_wanted, .int t_orders, .int t_foundAt, .long t_foundBy, .ref (a_t 32), .ref (a_t 33), .int t_unlikes, .ref (a_t 35), .ref (a_t 36)])), ((a_t 1), .inl (g.2.2.1 0, 27, .inl t_mem)), ((a_t 20), .inl (g.2.2.1 0, 8, .inl t_row)), ((a_t 23), .inl (g.2.2.1 1, 3, .inr (.inl t_strain)))] H → va_D A [((a_t 0), .inr (7, [.ref (a_t 1), .ref (a_t 2), .int t_acted, .ref (a_t 4), .ref (a_t 5), .ref (a_t 6), .ref (a_t 7), .ref (a_t 8), .ref (a_t 9), .int t_taped, .int t_faultKind, .int t_faultPlace, .int t_at, .int t_begin, .int t_token, .int t_value, .int t_bad, .ref (a_t 18), .ref (a_t 19), .ref (a_t 20), .int t_wide, .int t_lost, .ref (a_t 23), .long t_det, .ref (a_t 25), .int t_mask, .int t_mode, .int t_wanted, .int t_orders, .int t_foundAt, .long t_foundBy, .ref (a_t 32), .ref (a_t 33), .int t_unlikes, .ref (a_t 35), .ref (a_t 36)])), ((a_t 1), .inl (g.2.2.1 0, 27, .inl t_mem)), ((a_t 20), .inl (g.2.2.1 0, 8, .inl t_row)), ((a_t 23), .inl (g.2.2.1 1, 3, .inr (.inl t_strain)))] → va_S A s.heap H locs → ∀ (ls : Array Slot), lv_has ls 7 [(0, .ref ((a_t 0))), (4, .int v4), (5, .int v5), (6, .int v6)] → fX8_factor_76  n t_mem t_row t_wide t_lost t_strain t_det v4 v5 v6 = some (o, o_t_row, o_t_wide, o_t_lost, o_t_strain, o_t_det) → W p l e ⟨5, 0, 0, 134⟩ s m args below meth c H locs 0 0 Q (F0 m 76 ls []) := by
    intro n
    induction n with
    | zero => intro t_row t_wide t_lost t_strain t_det v4 v5 v6 H locs hP hD hS ls hl h; cases (fX8_factor_76_z  t_mem t_row t_wide t_lost t_strain t_det v4 v5 v6).symm.trans h
    | succ n ih =>
    intro t_row t_wide t_lost t_strain t_det v4 v5 v6 H locs hP hD hS ls hl h
    have h := (fX8_factor_76_s  n t_mem t_row t_wide t_lost t_strain t_det v4 v5 v6).symm.trans h
    have hG := hGk hS
    refine lv_iload hx hb dX8_factor_76 (lv_at hl 3 rfl) ?_
    refine lv_aload_n hx hb dX8_factor_78 rfl (lv_at hl 0 rfl) ?_
    refine xa_get (C := RX8) (T := TX8) (N := 36) cx hG hP 0 rfl rfl uX8 20 (by decide) lf_X8_206 rfl dX8_factor_79 ?_
    refine lv_icmp_ge (tgt := 142) hx hb dX8_factor_82 (by decide) (fun c22 => ?_) (fun c22 => ?_)
    · have h := itp c22 h
      exact w142 t_row t_wide t_lost t_strain t_det v4 v5 _ _ hP hD hS _ (lv_sub hl [0, 1, 2] rfl) h
    · have h := itn c22 h
      refine lv_aload_n hx hb dX8_factor_85 rfl (lv_at hl 0 rfl) ?_
      refine lv_iload hx hb dX8_factor_86 (lv_at hl 3 rfl) ?_
      obtain ⟨r23, hr24, h⟩ := bnd h
      refine ro_l (runV (As := [.int v6]) (rest := []) cx hl.1 (ctX8_along l g a_t t_acted t_taped t_faultKind t_faultPlace t_at t_begin t_token t_value t_bad t_wide t_lost t_det t_mask t_mode t_wanted t_orders t_foundAt t_foundBy t_unlikes t_row t_strain v6 r23 hr24) kmX8_along kvX8_along lm_X8_292 ⟨rfl, rfl⟩ ⟨Nat.le_of_ble_eq_true rfl, Nat.le_of_ble_eq_true rfl⟩ (roV (q0 := 0) (ci := 7) hG (hP.sub [0, 2, 3] rfl) hP rfl rfl) rfl rfl (Nat.le_of_ble_eq_true rfl) dX8_factor_88 ⟨Nat.le_of_ble_eq_true rfl, Nat.le_of_ble_eq_true rfl⟩) ?_
      refine lv_lconst (v := 0) hx hb dX8_factor_91 (by decide) ?_
      refine W.lcmp hx hb dX8_factor_92 ?_
      refine lv_if_eq (tgt := 136) hx hb dX8_factor_93 (by decide) (fun c25 => ?_) (fun c25 => ?_)
      · have h := itp c25 h
        exact w136 _ ih t_row t_wide t_lost t_strain t_det v4 v5 v6 _ _ hP hD hS _ (lv_sub hl [0, 1, 2, 3] rfl) h
      · have h := itn c25 h
        refine lv_iload hx hb dX8_factor_96 (lv_at hl 2 rfl) ?_
        refine lv_iconst (v := -1) hx hb dX8_factor_98 (by decide) ?_
        refine lv_icmp_eq (tgt := 132) hx hb dX8_factor_99 (by decide) (fun c26 => ?_) (fun c26 => ?_)
        · have h := itp c26 h
          exact w132 _ ih t_row t_wide t_lost t_strain t_det v4 v6 _ _ hP hD hS _ (lv_sub hl [0, 1, 3] rfl) h
        · have h := itn c26 h
          refine lv_aload_n hx hb dX8_factor_102 rfl (lv_at hl 0 rfl) ?_
          refine lv_iload hx hb dX8_factor_103 (lv_at hl 3 rfl) ?_
          obtain ⟨r27, hr28, h⟩ := bnd h
          refine ro_l (runV (As := [.int v6]) (rest := []) cx hl.1 (ctX8_limitOf l g a_t t_acted t_taped t_faultKind t_faultPlace t_at t_begin t_token t_value t_bad t_wide t_lost t_det t_mask t_mode t_wanted t_orders t_foundAt t_foundBy t_unlikes t_mem t_row v6 r27 hr28) kmX8_limitOf kvX8_limitOf lm_X8_295 ⟨rfl, rfl⟩ ⟨Nat.le_of_ble_eq_true rfl, Nat.le_of_ble_eq_true rfl⟩ (roV (q0 := 0) (ci := 7) hG (hP.sub [0, 1, 2] rfl) hP rfl rfl) rfl rfl (Nat.le_of_ble_eq_true rfl) dX8_factor_105 ⟨Nat.le_of_ble_eq_true rfl, Nat.le_of_ble_eq_true rfl⟩) ?_
          refine lv_aload_n hx hb dX8_factor_108 rfl (lv_at hl 0 rfl) ?_
          refine lv_iload hx hb dX8_factor_109 (lv_at hl 2 rfl) ?_
          obtain ⟨r29, hr30, h⟩ := bnd h
          refine ro_l (runV (As := [.int v5]) (rest := [.long r27]) cx hl.1 (ctX8_along l g a_t t_acted t_taped t_faultKind t_faultPlace t_at t_begin t_token t_value t_bad t_wide t_lost t_det t_mask t_mode t_wanted t_orders t_foundAt t_foundBy t_unlikes t_row t_strain v5 r29 hr30) kmX8_along kvX8_along lm_X8_292 ⟨rfl, rfl⟩ ⟨Nat.le_of_ble_eq_true rfl, Nat.le_of_ble_eq_true rfl⟩ (roV (q0 := 0) (ci := 7) hG (hP.sub [0, 2, 3] rfl) hP rfl rfl) rfl rfl (Nat.le_of_ble_eq_true rfl) dX8_factor_111 ⟨Nat.le_of_ble_eq_true rfl, Nat.le_of_ble_eq_true rfl⟩) ?_
          refine lv_lmul hx hb dX8_factor_114 ?_
          refine lv_aload_n hx hb dX8_factor_115 rfl (lv_at hl 0 rfl) ?_
          refine lv_iload hx hb dX8_factor_116 (lv_at hl 2 rfl) ?_
          obtain ⟨r31, hr32, h⟩ := bnd h
          refine ro_l (runV (As := [.int v5]) (rest := [.long (r27 * r29)]) cx hl.1 (ctX8_limitOf l g a_t t_acted t_taped t_faultKind t_faultPlace t_at t_begin t_token t_value t_bad t_wide t_lost t_det t_mask t_mode t_wanted t_orders t_foundAt t_foundBy t_unlikes t_mem t_row v5 r31 hr32) kmX8_limitOf kvX8_limitOf lm_X8_295 ⟨rfl, rfl⟩ ⟨Nat.le_of_ble_eq_true rfl, Nat.le_of_ble_eq_true rfl⟩ (roV (q0 := 0) (ci := 7) hG (hP.sub [0, 1, 2] rfl) hP rfl rfl) rfl rfl (Nat.le_of_ble_eq_true rfl) dX8_factor_118 ⟨Nat.le_of_ble_eq_true rfl, Nat.le_of_ble_eq_true rfl⟩) ?_
          refine lv_aload_n hx hb dX8_factor_121 rfl (lv_at hl 0 rfl) ?_
          refine lv_iload hx hb dX8_factor_122 (lv_at hl 3 rfl) ?_
          obtain ⟨r33, hr34, h⟩ := bnd h
          refine ro_l (runV (As := [.int v6]) (rest := [.long r31, .long (r27 * r29)]) cx hl.1 (ctX8_along l g a_t t_acted t_taped t_faultKind t_faultPlace t_at t_begin t_token t_value t_bad t_wide t_lost t_det t_mask t_mode t_wanted t_orders t_foundAt t_foundBy t_unlikes t_row t_strain v6 r33 hr34) kmX8_along kvX8_along lm_X8_292 ⟨rfl, rfl⟩ ⟨Nat.le_of_ble_eq_true rfl, Nat.le_of_ble_eq_true rfl⟩ (roV (q0 := 0) (ci := 7) hG (hP.sub [0, 2, 3] rfl) hP rfl rfl) rfl rfl (Nat.le_of_ble_eq_true rfl) dX8_factor_124 ⟨Nat.le_of_ble_eq_true rfl, Nat.le_of_ble_eq_true rfl⟩) ?_
          refine lv_lmul hx hb dX8_factor_127 ?_
          refine W.lcmp hx hb dX8_factor_128 ?_
          refine lv_if_ge (tgt := 136) hx hb dX8_factor_129 (by decide) (fun c35 => ?_) (fun c35 => ?_)
          · have h := itp c35 h
            exact w136 _ ih t_row t_wide t_lost t_strain t_det v4 v5 v6 _ _ hP hD hS _ (lv_sub hl [0, 1, 2, 3] rfl) h
          · have h := itn c35 h
            exact w132 _ ih t_row t_wide t_lost t_strain t_det v4 v6 _ _ hP hD hS _ (lv_sub hl [0, 1, 3] rfl) h
  unfold fX8_factor at h
  refine lv_aload_n hx hb dX8_factor_0 rfl (lv_at hl 0 rfl) ?_
  obtain ⟨r1, hr2, h⟩ := bnd h
  refine ro_z (runV (As := []) (rest := []) cx hl.1 (ctX8_is l g a_t t_acted t_taped t_faultKind t_faultPlace t_at t_begin t_token t_value t_bad t_wide t_lost t_det t_mask t_mode t_wanted t_orders t_foundAt t_foundBy t_unlikes t_mem r1 hr2) kmX8_is kvX8_is lm_X8_236 ⟨rfl, rfl⟩ ⟨Nat.le_of_ble_eq_true rfl, Nat.le_of_ble_eq_true rfl⟩ (roV (q0 := 0) (ci := 7) hG (hP.sub [0, 1] rfl) hP rfl rfl) rfl rfl (Nat.le_of_ble_eq_true rfl) dX8_factor_1 ⟨Nat.le_of_ble_eq_true rfl, Nat.le_of_ble_eq_true rfl⟩) (fun hz3 => ?_)
  refine lv_if_eq (tgt := 29) hx hb dX8_factor_4 (by decide) (fun c4 => ?_) (fun c4 => ?_)
  · have h := itp c4 h
    refine lv_ldc2 (own := RX8) (v := -2) hx hb cx.2.2.2.1 (cx.2.2.2.2 _ cl_X8_249) dX8_factor_29 ?_
    exact hrt (fun _ => 0) _ _ ((-2)) t_row t_wide t_lost t_strain t_det _ _ dX8_factor_32 h (hP.sub [0, 1, 2, 3] rfl) (hD.sub [0, 1, 2, 3] (by decide) rfl) hS
  · have h := itn c4 h
    refine lv_iload_n hx hb dX8_factor_7 rfl (lv_at hl 1 rfl) ?_
    refine lv_iload_n hx hb dX8_factor_8 rfl (lv_at hl 2 rfl) ?_
    refine lv_iload_n hx hb dX8_factor_9 rfl (lv_at hl 3 rfl) ?_
    refine ro_z (runS (As := [.int v1, .int v2, .int v3]) (rest := []) cx hl.1 (ctX8_areLoads l g v1 v2 v3 (fX8_areLoads v1 v2 v3) rfl) kmX8_areLoads ksX8_areLoads lm_X8_272 ⟨rfl, rfl⟩ ⟨Nat.le_of_ble_eq_true rfl, Nat.le_of_ble_eq_true rfl⟩ (roS hG (hP.sub [] rfl)) rfl rfl (Nat.le_of_ble_eq_true rfl) dX8_factor_10 ⟨Nat.le_of_ble_eq_true rfl, Nat.le_of_ble_eq_true rfl⟩) (fun hz5 => ?_)
    refine lv_if_eq (tgt := 29) hx hb dX8_factor_13 (by decide) (fun c6 => ?_) (fun c6 => ?_)
    · have h := itp c6 h
      refine lv_ldc2 (own := RX8) (v := -2) hx hb cx.2.2.2.1 (cx.2.2.2.2 _ cl_X8_249) dX8_factor_29 ?_
      exact hrt (fun _ => 0) _ _ ((-2)) t_row t_wide t_lost t_strain t_det _ _ dX8_factor_32 h (hP.sub [0, 1, 2, 3] rfl) (hD.sub [0, 1, 2, 3] (by decide) rfl) hS
    · have h := itn c6 h
      refine lv_iload hx hb dX8_factor_16 (lv_at hl 4 rfl) ?_
      refine lv_i2l (v := v4.toInt64) hx hb dX8_factor_18 rfl ?_
      refine lv_lconst (v := 0) hx hb dX8_factor_19 (by decide) ?_
      refine lv_ldc2 (own := RX8) (v := 2) hx hb cx.2.2.2.1 (cx.2.2.2.2 _ cl_X8_239) dX8_factor_20 ?_
      refine ro_z (runS (As := [.long v4.toInt64, .long (0), .long (2)]) (rest := []) cx hl.1 (ctX8_in l g v4.toInt64 (0) (2) (fX8_in v4.toInt64 0 2) rfl) kmX8_in ksX8_in lm_X8_83 ⟨rfl, rfl⟩ ⟨Nat.le_of_ble_eq_true rfl, Nat.le_of_ble_eq_true rfl⟩ (roS hG (hP.sub [] rfl)) rfl rfl (Nat.le_of_ble_eq_true rfl) dX8_factor_23 ⟨Nat.le_of_ble_eq_true rfl, Nat.le_of_ble_eq_true rfl⟩) (fun hz7 => ?_)
      refine lv_if_ne (tgt := 33) hx hb dX8_factor_26 (by decide) (fun c8 => ?_) (fun c8 => ?_)
      · have h := itn c8 h
        refine lv_aload_n hx hb dX8_factor_33 rfl (lv_at hl 0 rfl) ?_
        obtain ⟨w10, w11, w12, hr9, h⟩ := ob3_out h
        refine rw_v (WN := fun u13 => [((a_t 23), .inl (g.2.2.1 1, 3, .inr (.inl t_strain))), ((a_t 0), .inr (7, [.ref (a_t 1), .ref (a_t 2), .int t_acted, .ref (a_t 4), .ref (a_t 5), .ref (a_t 6), .ref (a_t 7), .ref (a_t 8), .ref (a_t 9), .int t_taped, .int t_faultKind, .int t_faultPlace, .int t_at, .int t_begin, .int t_token, .int t_value, .int t_bad, .ref (a_t 18), .ref (a_t 19), .ref (a_t 20), .int w11, .int w12, .ref (a_t 23), .long t_det, .ref (a_t 25), .int t_mask, .int t_mode, .int t_wanted, .int t_orders, .int t_foundAt, .long t_foundBy, .ref (a_t 32), .ref (a_t 33), .int t_unlikes, .ref (a_t 35), .ref (a_t 36)])), ((a_t 1), .inl (g.2.2.1 0, 27, .inl t_mem)), ((a_t 20), .inl (g.2.2.1 0, 8, .inl w10))]) (wr := [((a_t 23), .inl (g.2.2.1 1, 3, .inr (.inl t_strain)))]) (runV (As := []) (rest := []) cx hl.1 (ctX8_laysPlate l g s.heap.size a_t t_acted t_taped t_faultKind t_faultPlace t_at t_begin t_token t_value t_bad t_wide t_lost t_det t_mask t_mode t_wanted t_orders t_foundAt t_foundBy t_unlikes t_mem t_row w10 w11 w12 hr9) kmX8_laysPlate kvX8_laysPlate lm_X8_243 ⟨rfl, rfl⟩ ⟨Nat.le_of_ble_eq_true rfl, Nat.le_of_ble_eq_true rfl⟩ (rwV (q0 := 0) (ci := 7) hG (hP.sub [0, 1, 2] rfl) (hD.sub [0, 1, 2] (by decide) rfl) hAb hb0 hS hP rfl rfl) rfl rfl (Nat.le_of_ble_eq_true rfl) dX8_factor_34 ⟨Nat.le_of_ble_eq_true rfl, Nat.le_of_ble_eq_true rfl⟩) hP hD hS hA [0, 1, 2] [3] rfl rfl (by decide) (by decide) (fun _ => rfl) (fun u13 H locs hP hD hS => ?_)
        have hG := hGk hS
        refine lv_aload_n hx hb dX8_factor_37 rfl (lv_at hl 0 rfl) ?_
        refine lv_iconst (v := 0) hx hb dX8_factor_38 (by decide) ?_
        refine lv_iload_n hx hb dX8_factor_39 rfl (lv_at hl 1 rfl) ?_
        refine lv_i2l (v := v1.toInt64) hx hb dX8_factor_40 rfl ?_
        refine lv_iload_n hx hb dX8_factor_41 rfl (lv_at hl 2 rfl) ?_
        refine lv_i2l (v := v2.toInt64) hx hb dX8_factor_42 rfl ?_
        refine lv_iload_n hx hb dX8_factor_43 rfl (lv_at hl 3 rfl) ?_
        refine lv_i2l (v := v3.toInt64) hx hb dX8_factor_44 rfl ?_
        obtain ⟨w15, w16, hr14, h⟩ := ob2_out h
        refine rw_v (WN := fun u17 => [((a_t 0), .inr (7, [.ref (a_t 1), .ref (a_t 2), .int t_acted, .ref (a_t 4), .ref (a_t 5), .ref (a_t 6), .ref (a_t 7), .ref (a_t 8), .ref (a_t 9), .int t_taped, .int t_faultKind, .int t_faultPlace, .int t_at, .int t_begin, .int t_token, .int t_value, .int t_bad, .ref (a_t 18), .ref (a_t 19), .ref (a_t 20), .int w11, .int w12, .ref (a_t 23), .long w16, .ref (a_t 25), .int t_mask, .int t_mode, .int t_wanted, .int t_orders, .int t_foundAt, .long t_foundBy, .ref (a_t 32), .ref (a_t 33), .int t_unlikes, .ref (a_t 35), .ref (a_t 36)])), ((a_t 1), .inl (g.2.2.1 0, 27, .inl t_mem)), ((a_t 20), .inl (g.2.2.1 0, 8, .inl w10)), ((a_t 23), .inl (g.2.2.1 1, 3, .inr (.inl w15)))]) (wr := []) (runV (As := [.int (0), .long v1.toInt64, .long v2.toInt64, .long v3.toInt64]) (rest := []) cx hl.1 (ctX8_laysStrains l g H.size a_t t_acted t_taped t_faultKind t_faultPlace t_at t_begin t_token t_value t_bad w11 w12 t_det t_mask t_mode t_wanted t_orders t_foundAt t_foundBy t_unlikes t_mem w10 t_strain (0) v1.toInt64 v2.toInt64 v3.toInt64 w15 w16 hr14) kmX8_laysStrains kvX8_laysStrains lm_X8_276 ⟨rfl, rfl⟩ ⟨Nat.le_of_ble_eq_true rfl, Nat.le_of_ble_eq_true rfl⟩ (rwV (q0 := 1) (ci := 7) hG (hP.sub [1, 2, 3, 0] rfl) (hD.sub [1, 2, 3, 0] (by decide) rfl) hAb hb0 hS hP rfl rfl) rfl rfl (Nat.le_of_ble_eq_true rfl) dX8_factor_45 ⟨Nat.le_of_ble_eq_true rfl, Nat.le_of_ble_eq_true rfl⟩) hP hD hS hA [1, 2, 3, 0] [] rfl rfl (by decide) (by decide) (fun _ => rfl) (fun u17 H locs hP hD hS => ?_)
        have hG := hGk hS
        refine lv_aload_n hx hb dX8_factor_48 rfl (lv_at hl 0 rfl) ?_
        refine xa_get (C := RX8) (T := TX8) (N := 36) cx hG hP 0 rfl rfl uX8 23 (by decide) lf_X8_264 rfl dX8_factor_49 ?_
        refine lv_lconst (v := 0) hx hb dX8_factor_52 (by decide) ?_
        refine W.lcmp hx hb dX8_factor_53 ?_
        refine lv_if_eq (tgt := 66) hx hb dX8_factor_54 (by decide) (fun c18 => ?_) (fun c18 => ?_)
        · have h := itp c18 h
          refine lv_ldc2 (own := RX8) (v := -6) hx hb cx.2.2.2.1 (cx.2.2.2.2 _ cl_X8_290) dX8_factor_66 ?_
          exact hrt (fun _ => 0) _ _ ((-6)) w10 w11 w12 w15 w16 _ _ dX8_factor_69 h (hP.sub [0, 1, 2, 3] rfl) (hD.sub [0, 1, 2, 3] (by decide) rfl) hS
        · have h := itn c18 h
          refine lv_aload_n hx hb dX8_factor_57 rfl (lv_at hl 0 rfl) ?_
          obtain ⟨r19, hr20, h⟩ := bnd h
          refine ro_l (runV (As := []) (rest := []) cx hl.1 (ctX8_warpHere l g a_t t_acted t_taped t_faultKind t_faultPlace t_at t_begin t_token t_value t_bad w11 w12 w16 t_mask t_mode t_wanted t_orders t_foundAt t_foundBy t_unlikes t_mem w10 r19 hr20) kmX8_warpHere kvX8_warpHere lm_X8_226 ⟨rfl, rfl⟩ ⟨Nat.le_of_ble_eq_true rfl, Nat.le_of_ble_eq_true rfl⟩ (roV (q0 := 0) (ci := 7) hG (hP.sub [0, 1, 2] rfl) hP rfl rfl) rfl rfl (Nat.le_of_ble_eq_true rfl) dX8_factor_58 ⟨Nat.le_of_ble_eq_true rfl, Nat.le_of_ble_eq_true rfl⟩) ?_
          refine lv_lconst (v := 0) hx hb dX8_factor_61 (by decide) ?_
          refine W.lcmp hx hb dX8_factor_62 ?_
          refine lv_if_eq (tgt := 70) hx hb dX8_factor_63 (by decide) (fun c21 => ?_) (fun c21 => ?_)
          · have h := itp c21 h
            refine lv_iconst (v := -1) hx hb dX8_factor_70 (by decide) ?_
            refine lv_istore (lv' := [(5, .int (-1)), (0, .ref ((a_t 0))), (1, .int v1), (2, .int v2), (3, .int v3), (4, .int v4)]) hx hb dX8_factor_71 hl (by decide) rfl (fun ls hl => ?_)
            refine lv_iconst (v := 0) hx hb dX8_factor_73 (by decide) ?_
            refine lv_istore (lv' := [(6, .int (0)), (5, .int (-1)), (0, .ref ((a_t 0))), (1, .int v1), (2, .int v2), (3, .int v3), (4, .int v4)]) hx hb dX8_factor_74 hl (by decide) rfl (fun ls hl => ?_)
            exact w76 FU w10 w11 w12 w15 w16 v4 (-1) 0 _ _ hP hD hS _ (lv_sub hl [2, 6, 1, 0] rfl) h
          · have h := itn c21 h
            refine lv_ldc2 (own := RX8) (v := -6) hx hb cx.2.2.2.1 (cx.2.2.2.2 _ cl_X8_290) dX8_factor_66 ?_
            exact hrt (fun _ => 0) _ _ ((-6)) w10 w11 w12 w15 w16 _ _ dX8_factor_69 h (hP.sub [0, 1, 2, 3] rfl) (hD.sub [0, 1, 2, 3] (by decide) rfl) hS
      · have h := itp c8 h
        refine lv_ldc2 (own := RX8) (v := -2) hx hb cx.2.2.2.1 (cx.2.2.2.2 _ cl_X8_249) dX8_factor_29 ?_
        exact hrt (fun _ => 0) _ _ ((-2)) t_row t_wide t_lost t_strain t_det _ _ dX8_factor_32 h (hP.sub [0, 1, 2, 3] rfl) (hD.sub [0, 1, 2, 3] (by decide) rfl) hS
-- X8_modulus
theorem dX8_modulus_0 : decode cX8_modulus 0 = .ok (.aload_n 0, 1) := by decide +kernel
theorem dX8_modulus_1 : decode cX8_modulus 1 = .ok (.invokevirtual 236, 3) := by decide +kernel
theorem dX8_modulus_4 : decode cX8_modulus 4 = .ok (.ifCond .eq 23, 3) := by decide +kernel
theorem dX8_modulus_7 : decode cX8_modulus 7 = .ok (.iload_n 1, 1) := by decide +kernel
theorem dX8_modulus_8 : decode cX8_modulus 8 = .ok (.i2l, 1) := by decide +kernel
theorem dX8_modulus_9 : decode cX8_modulus 9 = .ok (.lconst 0, 1) := by decide +kernel
theorem dX8_modulus_10 : decode cX8_modulus 10 = .ok (.lconst 1, 1) := by decide +kernel
theorem dX8_modulus_11 : decode cX8_modulus 11 = .ok (.invokestatic 83, 3) := by decide +kernel
theorem dX8_modulus_14 : decode cX8_modulus 14 = .ok (.ifCond .eq 13, 3) := by decide +kernel
theorem dX8_modulus_17 : decode cX8_modulus 17 = .ok (.iload_n 2, 1) := by decide +kernel
theorem dX8_modulus_18 : decode cX8_modulus 18 = .ok (.i2l, 1) := by decide +kernel
theorem dX8_modulus_19 : decode cX8_modulus 19 = .ok (.lconst 0, 1) := by decide +kernel
theorem dX8_modulus_20 : decode cX8_modulus 20 = .ok (.lconst 1, 1) := by decide +kernel
theorem dX8_modulus_21 : decode cX8_modulus 21 = .ok (.invokestatic 83, 3) := by decide +kernel
theorem dX8_modulus_24 : decode cX8_modulus 24 = .ok (.ifCond .ne 7, 3) := by decide +kernel
theorem dX8_modulus_27 : decode cX8_modulus 27 = .ok (.ldc2_w 249, 3) := by decide +kernel
theorem dX8_modulus_30 : decode cX8_modulus 30 = .ok (.lreturn, 1) := by decide +kernel
theorem dX8_modulus_31 : decode cX8_modulus 31 = .ok (.aload_n 0, 1) := by decide +kernel
theorem dX8_modulus_32 : decode cX8_modulus 32 = .ok (.invokevirtual 243, 3) := by decide +kernel
theorem dX8_modulus_35 : decode cX8_modulus 35 = .ok (.aload_n 0, 1) := by decide +kernel
theorem dX8_modulus_36 : decode cX8_modulus 36 = .ok (.iconst 0, 1) := by decide +kernel
theorem dX8_modulus_37 : decode cX8_modulus 37 = .ok (.iload_n 1, 1) := by decide +kernel
theorem dX8_modulus_38 : decode cX8_modulus 38 = .ok (.iload_n 1, 1) := by decide +kernel
theorem dX8_modulus_39 : decode cX8_modulus 39 = .ok (.invokevirtual 257, 3) := by decide +kernel
theorem dX8_modulus_42 : decode cX8_modulus 42 = .ok (.lstore_n 3, 1) := by decide +kernel
theorem dX8_modulus_43 : decode cX8_modulus 43 = .ok (.lload_n 3, 1) := by decide +kernel
theorem dX8_modulus_44 : decode cX8_modulus 44 = .ok (.lconst 0, 1) := by decide +kernel
theorem dX8_modulus_45 : decode cX8_modulus 45 = .ok (.lcmp, 1) := by decide +kernel
theorem dX8_modulus_46 : decode cX8_modulus 46 = .ok (.ifCond .ne 9, 3) := by decide +kernel
theorem dX8_modulus_49 : decode cX8_modulus 49 = .ok (.ldc2_w 290, 3) := by decide +kernel
theorem dX8_modulus_52 : decode cX8_modulus 52 = .ok (.goto 13, 3) := by decide +kernel
theorem dX8_modulus_55 : decode cX8_modulus 55 = .ok (.aload_n 0, 1) := by decide +kernel
theorem dX8_modulus_56 : decode cX8_modulus 56 = .ok (.iconst 0, 1) := by decide +kernel
theorem dX8_modulus_57 : decode cX8_modulus 57 = .ok (.invokevirtual 260, 3) := by decide +kernel
theorem dX8_modulus_60 : decode cX8_modulus 60 = .ok (.lload_n 3, 1) := by decide +kernel
theorem dX8_modulus_61 : decode cX8_modulus 61 = .ok (.iload_n 2, 1) := by decide +kernel
theorem dX8_modulus_62 : decode cX8_modulus 62 = .ok (.invokestatic 282, 3) := by decide +kernel
theorem dX8_modulus_65 : decode cX8_modulus 65 = .ok (.lreturn, 1) := by decide +kernel
noncomputable def fX8_modulus  (t_mem : Nat → Int32) (t_row : Nat → Int32) (t_wide : Int32) (t_lost : Int32) (v1 : Int32) (v2 : Int32) : Option (Int64 × (Nat → Int32) × Int32 × Int32) := (fX8_is t_mem).bind fun r1 => (if r1 = 0 then some ((-2), t_row, t_wide, t_lost) else (if (fX8_in v1.toInt64 0 1) = 0 then some ((-2), t_row, t_wide, t_lost) else (if (fX8_in v2.toInt64 0 1) = 0 then some ((-2), t_row, t_wide, t_lost) else ob3 (fX8_laysPlate t_mem t_row t_wide t_lost) fun w10 w11 w12 => (fX8_minor t_mem w10 w11 w12 0 v1 v1).bind fun r14 => (if (lg_cmp r14 0) = 0 then some ((-6), w10, w11, w12) else (fX8_detOf t_mem w10 w11 w12 0).bind fun r17 => (fX8_part r17 r14 v2).bind fun r19 => some (r19, w10, w11, w12)))))
set_option maxHeartbeats 4000000 in
set_option maxRecDepth 100000 in
theorem ctX8_modulus (l : Launch) (g : GT) (sz : Nat) (a_t : Nat → Nat) (t_acted : Int32) (t_taped : Int32) (t_faultKind : Int32) (t_faultPlace : Int32) (t_at : Int32) (t_begin : Int32) (t_token : Int32) (t_value : Int32) (t_bad : Int32) (t_wide : Int32) (t_lost : Int32) (t_det : Int64) (t_mask : Int32) (t_mode : Int32) (t_wanted : Int32) (t_orders : Int32) (t_foundAt : Int32) (t_foundBy : Int64) (t_unlikes : Int32) (t_mem : Nat → Int32) (t_row : Nat → Int32) (v1 : Int32) (v2 : Int32) (o : Int64) (o_t_row : Nat → Int32) (o_t_wide : Int32) (o_t_lost : Int32) (h : fX8_modulus t_mem t_row t_wide t_lost v1 v2 = some (o, o_t_row, o_t_wide, o_t_lost)) : Met l yX8_modulus (Cond.code yX8_modulus cX8_modulus 5 (some .long) :: Tw) ⟨4, 0, 0, 106⟩ (va_Pc [.ref ((a_t 0)), .int v1, .int v2] (rwB g [((a_t 0), .inr (7, [.ref (a_t 1), .ref (a_t 2), .int t_acted, .ref (a_t 4), .ref (a_t 5), .ref (a_t 6), .ref (a_t 7), .ref (a_t 8), .ref (a_t 9), .int t_taped, .int t_faultKind, .int t_faultPlace, .int t_at, .int t_begin, .int t_token, .int t_value, .int t_bad, .ref (a_t 18), .ref (a_t 19), .ref (a_t 20), .int t_wide, .int t_lost, .ref (a_t 23), .long t_det, .ref (a_t 25), .int t_mask, .int t_mode, .int t_wanted, .int t_orders, .int t_foundAt, .long t_foundBy, .ref (a_t 32), .ref (a_t 33), .int t_unlikes, .ref (a_t 35), .ref (a_t 36)])), ((a_t 1), .inl (g.2.2.1 0, 27, .inl t_mem)), ((a_t 20), .inl (g.2.2.1 0, 8, .inl t_row))] sz)) (va_Ql (fun x (_ : Nat → Nat) => x = o) (fun u => rwE g (va_A [((a_t 0), .inr (7, [.ref (a_t 1), .ref (a_t 2), .int t_acted, .ref (a_t 4), .ref (a_t 5), .ref (a_t 6), .ref (a_t 7), .ref (a_t 8), .ref (a_t 9), .int t_taped, .int t_faultKind, .int t_faultPlace, .int t_at, .int t_begin, .int t_token, .int t_value, .int t_bad, .ref (a_t 18), .ref (a_t 19), .ref (a_t 20), .int t_wide, .int t_lost, .ref (a_t 23), .long t_det, .ref (a_t 25), .int t_mask, .int t_mode, .int t_wanted, .int t_orders, .int t_foundAt, .long t_foundBy, .ref (a_t 32), .ref (a_t 33), .int t_unlikes, .ref (a_t 35), .ref (a_t 36)])), ((a_t 1), .inl (g.2.2.1 0, 27, .inl t_mem)), ((a_t 20), .inl (g.2.2.1 0, 8, .inl t_row))] sz) [((a_t 0), .inr (7, [.ref (a_t 1), .ref (a_t 2), .int t_acted, .ref (a_t 4), .ref (a_t 5), .ref (a_t 6), .ref (a_t 7), .ref (a_t 8), .ref (a_t 9), .int t_taped, .int t_faultKind, .int t_faultPlace, .int t_at, .int t_begin, .int t_token, .int t_value, .int t_bad, .ref (a_t 18), .ref (a_t 19), .ref (a_t 20), .int o_t_wide, .int o_t_lost, .ref (a_t 23), .long t_det, .ref (a_t 25), .int t_mask, .int t_mode, .int t_wanted, .int t_orders, .int t_foundAt, .long t_foundBy, .ref (a_t 32), .ref (a_t 33), .int t_unlikes, .ref (a_t 35), .ref (a_t 36)])), ((a_t 1), .inl (g.2.2.1 0, 27, .inl t_mem)), ((a_t 20), .inl (g.2.2.1 0, 8, .inl o_t_row))]) (va_A [((a_t 0), .inr (7, [.ref (a_t 1), .ref (a_t 2), .int t_acted, .ref (a_t 4), .ref (a_t 5), .ref (a_t 6), .ref (a_t 7), .ref (a_t 8), .ref (a_t 9), .int t_taped, .int t_faultKind, .int t_faultPlace, .int t_at, .int t_begin, .int t_token, .int t_value, .int t_bad, .ref (a_t 18), .ref (a_t 19), .ref (a_t 20), .int t_wide, .int t_lost, .ref (a_t 23), .long t_det, .ref (a_t 25), .int t_mask, .int t_mode, .int t_wanted, .int t_orders, .int t_foundAt, .long t_foundBy, .ref (a_t 32), .ref (a_t 33), .int t_unlikes, .ref (a_t 35), .ref (a_t 36)])), ((a_t 1), .inl (g.2.2.1 0, 27, .inl t_mem)), ((a_t 20), .inl (g.2.2.1 0, 8, .inl t_row))] sz)) 0 0 (va_A [((a_t 0), .inr (7, [.ref (a_t 1), .ref (a_t 2), .int t_acted, .ref (a_t 4), .ref (a_t 5), .ref (a_t 6), .ref (a_t 7), .ref (a_t 8), .ref (a_t 9), .int t_taped, .int t_faultKind, .int t_faultPlace, .int t_at, .int t_begin, .int t_token, .int t_value, .int t_bad, .ref (a_t 18), .ref (a_t 19), .ref (a_t 20), .int t_wide, .int t_lost, .ref (a_t 23), .long t_det, .ref (a_t 25), .int t_mask, .int t_mode, .int t_wanted, .int t_orders, .int t_foundAt, .long t_foundBy, .ref (a_t 32), .ref (a_t 33), .int t_unlikes, .ref (a_t 35), .ref (a_t 36)])), ((a_t 1), .inl (g.2.2.1 0, 27, .inl t_mem)), ((a_t 20), .inl (g.2.2.1 0, 8, .inl t_row))] sz) := by
  refine rw_metl (by decide) (Nat.le_of_ble_eq_true rfl) (lv0 := [(0, .ref ((a_t 0))), (1, .int v1), (2, .int v2)]) rfl ?_
  intro p e s m args below meth c ls Q A cx hret hG hAb hb0 hA hP hD hl
  have hx := cx.1
  have hb := cx.2.1
  have hG0 := hG
  have hGk : ∀ {H : Heap} {locs : List Loc}, va_S A s.heap H locs → GE g s H := fun hS => hG0.keptS hAb hS
  have hSb : ∀ {H : Heap} {locs : List Loc}, va_S A s.heap H locs → va_S (fun a => g.1 ≤ a) s.heap H locs := fun hS => ⟨hS.1, fun q h1 h2 => hS.2.1 q h1 (fun z => h2 (hAb q z)), fun l hl => hAb _ (hS.2.2 l hl)⟩
  have hS : va_S A s.heap s.heap [] := va_S.rf
  have hrt : ∀ (u : Nat → Nat) (pc : Nat) (ls : Array Slot) (v : Int64) (x_t_row : Nat → Int32) (x_t_wide : Int32) (x_t_lost : Int32) (H : Heap) (locs : List Loc), decode cX8_modulus pc = .ok (.lreturn, 1) → some (v, x_t_row, x_t_wide, x_t_lost) = some (o, o_t_row, o_t_wide, o_t_lost) → va_P g.2.1 vwCl [((a_t 0), .inr (7, [.ref (a_t 1), .ref (a_t 2), .int t_acted, .ref (a_t 4), .ref (a_t 5), .ref (a_t 6), .ref (a_t 7), .ref (a_t 8), .ref (a_t 9), .int t_taped, .int t_faultKind, .int t_faultPlace, .int t_at, .int t_begin, .int t_token, .int t_value, .int t_bad, .ref (a_t 18), .ref (a_t 19), .ref (a_t 20), .int x_t_wide, .int x_t_lost, .ref (a_t 23), .long t_det, .ref (a_t 25), .int t_mask, .int t_mode, .int t_wanted, .int t_orders, .int t_foundAt, .long t_foundBy, .ref (a_t 32), .ref (a_t 33), .int t_unlikes, .ref (a_t 35), .ref (a_t 36)])), ((a_t 1), .inl (g.2.2.1 0, 27, .inl t_mem)), ((a_t 20), .inl (g.2.2.1 0, 8, .inl x_t_row))] H → va_D A [((a_t 0), .inr (7, [.ref (a_t 1), .ref (a_t 2), .int t_acted, .ref (a_t 4), .ref (a_t 5), .ref (a_t 6), .ref (a_t 7), .ref (a_t 8), .ref (a_t 9), .int t_taped, .int t_faultKind, .int t_faultPlace, .int t_at, .int t_begin, .int t_token, .int t_value, .int t_bad, .ref (a_t 18), .ref (a_t 19), .ref (a_t 20), .int x_t_wide, .int x_t_lost, .ref (a_t 23), .long t_det, .ref (a_t 25), .int t_mask, .int t_mode, .int t_wanted, .int t_orders, .int t_foundAt, .long t_foundBy, .ref (a_t 32), .ref (a_t 33), .int t_unlikes, .ref (a_t 35), .ref (a_t 36)])), ((a_t 1), .inl (g.2.2.1 0, 27, .inl t_mem)), ((a_t 20), .inl (g.2.2.1 0, 8, .inl x_t_row))] → va_S A s.heap H locs → W p l e ⟨4, 0, 0, 106⟩ s m args below meth c H locs 0 0 Q (F0 m pc ls [.long v]) := by
    intro u pc ls v x_t_row x_t_wide x_t_lost H locs hd h hP hD hS
    cases h
    exact hret u _ _ _ _ _ hd rfl hP hD hS
  unfold fX8_modulus at h
  refine lv_aload_n hx hb dX8_modulus_0 rfl (lv_at hl 0 rfl) ?_
  obtain ⟨r1, hr2, h⟩ := bnd h
  refine ro_z (runV (As := []) (rest := []) cx hl.1 (ctX8_is l g a_t t_acted t_taped t_faultKind t_faultPlace t_at t_begin t_token t_value t_bad t_wide t_lost t_det t_mask t_mode t_wanted t_orders t_foundAt t_foundBy t_unlikes t_mem r1 hr2) kmX8_is kvX8_is lm_X8_236 ⟨rfl, rfl⟩ ⟨Nat.le_of_ble_eq_true rfl, Nat.le_of_ble_eq_true rfl⟩ (roV (q0 := 0) (ci := 7) hG (hP.sub [0, 1] rfl) hP rfl rfl) rfl rfl (Nat.le_of_ble_eq_true rfl) dX8_modulus_1 ⟨Nat.le_of_ble_eq_true rfl, Nat.le_of_ble_eq_true rfl⟩) (fun hz3 => ?_)
  refine lv_if_eq (tgt := 27) hx hb dX8_modulus_4 (by decide) (fun c4 => ?_) (fun c4 => ?_)
  · have h := itp c4 h
    refine lv_ldc2 (own := RX8) (v := -2) hx hb cx.2.2.2.1 (cx.2.2.2.2 _ cl_X8_249) dX8_modulus_27 ?_
    exact hrt (fun _ => 0) _ _ ((-2)) t_row t_wide t_lost _ _ dX8_modulus_30 h (hP.sub [0, 1, 2] rfl) (hD.sub [0, 1, 2] (by decide) rfl) hS
  · have h := itn c4 h
    refine lv_iload_n hx hb dX8_modulus_7 rfl (lv_at hl 1 rfl) ?_
    refine lv_i2l (v := v1.toInt64) hx hb dX8_modulus_8 rfl ?_
    refine lv_lconst (v := 0) hx hb dX8_modulus_9 (by decide) ?_
    refine lv_lconst (v := 1) hx hb dX8_modulus_10 (by decide) ?_
    refine ro_z (runS (As := [.long v1.toInt64, .long (0), .long (1)]) (rest := []) cx hl.1 (ctX8_in l g v1.toInt64 (0) (1) (fX8_in v1.toInt64 0 1) rfl) kmX8_in ksX8_in lm_X8_83 ⟨rfl, rfl⟩ ⟨Nat.le_of_ble_eq_true rfl, Nat.le_of_ble_eq_true rfl⟩ (roS hG (hP.sub [] rfl)) rfl rfl (Nat.le_of_ble_eq_true rfl) dX8_modulus_11 ⟨Nat.le_of_ble_eq_true rfl, Nat.le_of_ble_eq_true rfl⟩) (fun hz5 => ?_)
    refine lv_if_eq (tgt := 27) hx hb dX8_modulus_14 (by decide) (fun c6 => ?_) (fun c6 => ?_)
    · have h := itp c6 h
      refine lv_ldc2 (own := RX8) (v := -2) hx hb cx.2.2.2.1 (cx.2.2.2.2 _ cl_X8_249) dX8_modulus_27 ?_
      exact hrt (fun _ => 0) _ _ ((-2)) t_row t_wide t_lost _ _ dX8_modulus_30 h (hP.sub [0, 1, 2] rfl) (hD.sub [0, 1, 2] (by decide) rfl) hS
    · have h := itn c6 h
      refine lv_iload_n hx hb dX8_modulus_17 rfl (lv_at hl 2 rfl) ?_
      refine lv_i2l (v := v2.toInt64) hx hb dX8_modulus_18 rfl ?_
      refine lv_lconst (v := 0) hx hb dX8_modulus_19 (by decide) ?_
      refine lv_lconst (v := 1) hx hb dX8_modulus_20 (by decide) ?_
      refine ro_z (runS (As := [.long v2.toInt64, .long (0), .long (1)]) (rest := []) cx hl.1 (ctX8_in l g v2.toInt64 (0) (1) (fX8_in v2.toInt64 0 1) rfl) kmX8_in ksX8_in lm_X8_83 ⟨rfl, rfl⟩ ⟨Nat.le_of_ble_eq_true rfl, Nat.le_of_ble_eq_true rfl⟩ (roS hG (hP.sub [] rfl)) rfl rfl (Nat.le_of_ble_eq_true rfl) dX8_modulus_21 ⟨Nat.le_of_ble_eq_true rfl, Nat.le_of_ble_eq_true rfl⟩) (fun hz7 => ?_)
      refine lv_if_ne (tgt := 31) hx hb dX8_modulus_24 (by decide) (fun c8 => ?_) (fun c8 => ?_)
      · have h := itn c8 h
        refine lv_aload_n hx hb dX8_modulus_31 rfl (lv_at hl 0 rfl) ?_
        obtain ⟨w10, w11, w12, hr9, h⟩ := ob3_out h
        refine rw_v (WN := fun u13 => [((a_t 0), .inr (7, [.ref (a_t 1), .ref (a_t 2), .int t_acted, .ref (a_t 4), .ref (a_t 5), .ref (a_t 6), .ref (a_t 7), .ref (a_t 8), .ref (a_t 9), .int t_taped, .int t_faultKind, .int t_faultPlace, .int t_at, .int t_begin, .int t_token, .int t_value, .int t_bad, .ref (a_t 18), .ref (a_t 19), .ref (a_t 20), .int w11, .int w12, .ref (a_t 23), .long t_det, .ref (a_t 25), .int t_mask, .int t_mode, .int t_wanted, .int t_orders, .int t_foundAt, .long t_foundBy, .ref (a_t 32), .ref (a_t 33), .int t_unlikes, .ref (a_t 35), .ref (a_t 36)])), ((a_t 1), .inl (g.2.2.1 0, 27, .inl t_mem)), ((a_t 20), .inl (g.2.2.1 0, 8, .inl w10))]) (wr := []) (runV (As := []) (rest := []) cx hl.1 (ctX8_laysPlate l g s.heap.size a_t t_acted t_taped t_faultKind t_faultPlace t_at t_begin t_token t_value t_bad t_wide t_lost t_det t_mask t_mode t_wanted t_orders t_foundAt t_foundBy t_unlikes t_mem t_row w10 w11 w12 hr9) kmX8_laysPlate kvX8_laysPlate lm_X8_243 ⟨rfl, rfl⟩ ⟨Nat.le_of_ble_eq_true rfl, Nat.le_of_ble_eq_true rfl⟩ (rwV (q0 := 0) (ci := 7) hG (hP.sub [0, 1, 2] rfl) (hD.sub [0, 1, 2] (by decide) rfl) hAb hb0 hS hP rfl rfl) rfl rfl (Nat.le_of_ble_eq_true rfl) dX8_modulus_32 ⟨Nat.le_of_ble_eq_true rfl, Nat.le_of_ble_eq_true rfl⟩) hP hD hS hA [0, 1, 2] [] rfl rfl (by decide) (by decide) (fun _ => rfl) (fun u13 H locs hP hD hS => ?_)
        have hG := hGk hS
        refine lv_aload_n hx hb dX8_modulus_35 rfl (lv_at hl 0 rfl) ?_
        refine lv_iconst (v := 0) hx hb dX8_modulus_36 (by decide) ?_
        refine lv_iload_n hx hb dX8_modulus_37 rfl (lv_at hl 1 rfl) ?_
        refine lv_iload_n hx hb dX8_modulus_38 rfl (lv_at hl 1 rfl) ?_
        obtain ⟨r14, hr15, h⟩ := bnd h
        refine ro_l (runV (As := [.int (0), .int v1, .int v1]) (rest := []) cx hl.1 (ctX8_minor l g a_t t_acted t_taped t_faultKind t_faultPlace t_at t_begin t_token t_value t_bad w11 w12 t_det t_mask t_mode t_wanted t_orders t_foundAt t_foundBy t_unlikes t_mem w10 (0) v1 v1 r14 hr15) kmX8_minor kvX8_minor lm_X8_257 ⟨rfl, rfl⟩ ⟨Nat.le_of_ble_eq_true rfl, Nat.le_of_ble_eq_true rfl⟩ (roV (q0 := 0) (ci := 7) hG (hP.sub [0, 1, 2] rfl) hP rfl rfl) rfl rfl (Nat.le_of_ble_eq_true rfl) dX8_modulus_39 ⟨Nat.le_of_ble_eq_true rfl, Nat.le_of_ble_eq_true rfl⟩) ?_
        refine lv_lstore_n (lv' := [(3, .long r14), (0, .ref ((a_t 0))), (1, .int v1), (2, .int v2)]) hx hb dX8_modulus_42 rfl hl (by decide) rfl (fun ls hl => ?_)
        refine lv_lload_n hx hb dX8_modulus_43 rfl (lv_at hl 0 rfl) ?_
        refine lv_lconst (v := 0) hx hb dX8_modulus_44 (by decide) ?_
        refine W.lcmp hx hb dX8_modulus_45 ?_
        refine lv_if_ne (tgt := 55) hx hb dX8_modulus_46 (by decide) (fun c16 => ?_) (fun c16 => ?_)
        · have h := itn c16 h
          refine lv_aload_n hx hb dX8_modulus_55 rfl (lv_at hl 1 rfl) ?_
          refine lv_iconst (v := 0) hx hb dX8_modulus_56 (by decide) ?_
          obtain ⟨r17, hr18, h⟩ := bnd h
          refine ro_l (runV (As := [.int (0)]) (rest := []) cx hl.1 (ctX8_detOf l g a_t t_acted t_taped t_faultKind t_faultPlace t_at t_begin t_token t_value t_bad w11 w12 t_det t_mask t_mode t_wanted t_orders t_foundAt t_foundBy t_unlikes t_mem w10 (0) r17 hr18) kmX8_detOf kvX8_detOf lm_X8_260 ⟨rfl, rfl⟩ ⟨Nat.le_of_ble_eq_true rfl, Nat.le_of_ble_eq_true rfl⟩ (roV (q0 := 0) (ci := 7) hG (hP.sub [0, 1, 2] rfl) hP rfl rfl) rfl rfl (Nat.le_of_ble_eq_true rfl) dX8_modulus_57 ⟨Nat.le_of_ble_eq_true rfl, Nat.le_of_ble_eq_true rfl⟩) ?_
          refine lv_lload_n hx hb dX8_modulus_60 rfl (lv_at hl 0 rfl) ?_
          refine lv_iload_n hx hb dX8_modulus_61 rfl (lv_at hl 3 rfl) ?_
          obtain ⟨r19, hr20, h⟩ := bnd h
          refine ro_l (runS (As := [.long r17, .long r14, .int v2]) (rest := []) cx hl.1 (ctX8_part l g r17 r14 v2 r19 hr20) kmX8_part ksX8_part lm_X8_282 ⟨rfl, rfl⟩ ⟨Nat.le_of_ble_eq_true rfl, Nat.le_of_ble_eq_true rfl⟩ (roS hG (hP.sub [] rfl)) rfl rfl (Nat.le_of_ble_eq_true rfl) dX8_modulus_62 ⟨Nat.le_of_ble_eq_true rfl, Nat.le_of_ble_eq_true rfl⟩) ?_
          exact hrt (fun _ => 0) _ _ r19 w10 w11 w12 _ _ dX8_modulus_65 h (hP.sub [0, 1, 2] rfl) (hD.sub [0, 1, 2] (by decide) rfl) hS
        · have h := itp c16 h
          refine lv_ldc2 (own := RX8) (v := -6) hx hb cx.2.2.2.1 (cx.2.2.2.2 _ cl_X8_290) dX8_modulus_49 ?_
          refine lv_goto (tgt := 65) hx hb dX8_modulus_52 (by decide) ?_
          exact hrt (fun _ => 0) _ _ ((-6)) w10 w11 w12 _ _ dX8_modulus_65 h (hP.sub [0, 1, 2] rfl) (hD.sub [0, 1, 2] (by decide) rfl) hS
      · have h := itp c8 h
        refine lv_ldc2 (own := RX8) (v := -2) hx hb cx.2.2.2.1 (cx.2.2.2.2 _ cl_X8_249) dX8_modulus_27 ?_
        exact hrt (fun _ => 0) _ _ ((-2)) t_row t_wide t_lost _ _ dX8_modulus_30 h (hP.sub [0, 1, 2] rfl) (hD.sub [0, 1, 2] (by decide) rfl) hS
-- X8_isWithin
theorem dX8_isWithin_0 : decode cX8_isWithin 0 = .ok (.aload_n 0, 1) := by decide +kernel
theorem dX8_isWithin_1 : decode cX8_isWithin 1 = .ok (.iconst 0, 1) := by decide +kernel
theorem dX8_isWithin_2 : decode cX8_isWithin 2 = .ok (.lload_n 1, 1) := by decide +kernel
theorem dX8_isWithin_3 : decode cX8_isWithin 3 = .ok (.lload_n 3, 1) := by decide +kernel
theorem dX8_isWithin_4 : decode cX8_isWithin 4 = .ok (.lload 5, 2) := by decide +kernel
theorem dX8_isWithin_6 : decode cX8_isWithin 6 = .ok (.invokevirtual 276, 3) := by decide +kernel
theorem dX8_isWithin_9 : decode cX8_isWithin 9 = .ok (.iconst 0, 1) := by decide +kernel
theorem dX8_isWithin_10 : decode cX8_isWithin 10 = .ok (.istore 7, 2) := by decide +kernel
theorem dX8_isWithin_12 : decode cX8_isWithin 12 = .ok (.iload 7, 2) := by decide +kernel
theorem dX8_isWithin_14 : decode cX8_isWithin 14 = .ok (.aload_n 0, 1) := by decide +kernel
theorem dX8_isWithin_15 : decode cX8_isWithin 15 = .ok (.getfield 206, 3) := by decide +kernel
theorem dX8_isWithin_18 : decode cX8_isWithin 18 = .ok (.if_icmp .ge 56, 3) := by decide +kernel
theorem dX8_isWithin_21 : decode cX8_isWithin 21 = .ok (.aload_n 0, 1) := by decide +kernel
theorem dX8_isWithin_22 : decode cX8_isWithin 22 = .ok (.getfield 264, 3) := by decide +kernel
theorem dX8_isWithin_25 : decode cX8_isWithin 25 = .ok (.lconst 0, 1) := by decide +kernel
theorem dX8_isWithin_26 : decode cX8_isWithin 26 = .ok (.lcmp, 1) := by decide +kernel
theorem dX8_isWithin_27 : decode cX8_isWithin 27 = .ok (.ifCond .eq 39, 3) := by decide +kernel
theorem dX8_isWithin_30 : decode cX8_isWithin 30 = .ok (.aload_n 0, 1) := by decide +kernel
theorem dX8_isWithin_31 : decode cX8_isWithin 31 = .ok (.getfield 209, 3) := by decide +kernel
theorem dX8_isWithin_34 : decode cX8_isWithin 34 = .ok (.iload 7, 2) := by decide +kernel
theorem dX8_isWithin_36 : decode cX8_isWithin 36 = .ok (.invokestatic 212, 3) := by decide +kernel
theorem dX8_isWithin_39 : decode cX8_isWithin 39 = .ok (.ifCond .ne 29, 3) := by decide +kernel
theorem dX8_isWithin_42 : decode cX8_isWithin 42 = .ok (.aload_n 0, 1) := by decide +kernel
theorem dX8_isWithin_43 : decode cX8_isWithin 43 = .ok (.iload 7, 2) := by decide +kernel
theorem dX8_isWithin_45 : decode cX8_isWithin 45 = .ok (.invokevirtual 292, 3) := by decide +kernel
theorem dX8_isWithin_48 : decode cX8_isWithin 48 = .ok (.aload_n 0, 1) := by decide +kernel
theorem dX8_isWithin_49 : decode cX8_isWithin 49 = .ok (.iload 7, 2) := by decide +kernel
theorem dX8_isWithin_51 : decode cX8_isWithin 51 = .ok (.invokevirtual 295, 3) := by decide +kernel
theorem dX8_isWithin_54 : decode cX8_isWithin 54 = .ok (.aload_n 0, 1) := by decide +kernel
theorem dX8_isWithin_55 : decode cX8_isWithin 55 = .ok (.getfield 264, 3) := by decide +kernel
theorem dX8_isWithin_58 : decode cX8_isWithin 58 = .ok (.invokestatic 3, 3) := by decide +kernel
theorem dX8_isWithin_61 : decode cX8_isWithin 61 = .ok (.lmul, 1) := by decide +kernel
theorem dX8_isWithin_62 : decode cX8_isWithin 62 = .ok (.lcmp, 1) := by decide +kernel
theorem dX8_isWithin_63 : decode cX8_isWithin 63 = .ok (.ifCond .le 5, 3) := by decide +kernel
theorem dX8_isWithin_66 : decode cX8_isWithin 66 = .ok (.iconst 0, 1) := by decide +kernel
theorem dX8_isWithin_67 : decode cX8_isWithin 67 = .ok (.ireturn, 1) := by decide +kernel
theorem dX8_isWithin_68 : decode cX8_isWithin 68 = .ok (.iinc 7 1, 3) := by decide +kernel
theorem dX8_isWithin_71 : decode cX8_isWithin 71 = .ok (.goto (-59), 3) := by decide +kernel
theorem dX8_isWithin_74 : decode cX8_isWithin 74 = .ok (.aload_n 0, 1) := by decide +kernel
theorem dX8_isWithin_75 : decode cX8_isWithin 75 = .ok (.getfield 264, 3) := by decide +kernel
theorem dX8_isWithin_78 : decode cX8_isWithin 78 = .ok (.lconst 0, 1) := by decide +kernel
theorem dX8_isWithin_79 : decode cX8_isWithin 79 = .ok (.lcmp, 1) := by decide +kernel
theorem dX8_isWithin_80 : decode cX8_isWithin 80 = .ok (.ifCond .eq 7, 3) := by decide +kernel
theorem dX8_isWithin_83 : decode cX8_isWithin 83 = .ok (.iconst 1, 1) := by decide +kernel
theorem dX8_isWithin_84 : decode cX8_isWithin 84 = .ok (.goto 4, 3) := by decide +kernel
theorem dX8_isWithin_87 : decode cX8_isWithin 87 = .ok (.iconst 0, 1) := by decide +kernel
theorem dX8_isWithin_88 : decode cX8_isWithin 88 = .ok (.ireturn, 1) := by decide +kernel
noncomputable def fX8_isWithin_68 (k12 : (Nat → Int32) → (Nat → Int32) → Int32 → Int32 → (Nat → Int64) → Int64 → Int32 → Option (Int32 × (Nat → Int64) × Int64)) (t_mem : Nat → Int32) (t_row : Nat → Int32) (t_wide : Int32) (t_lost : Int32) (t_strain : Nat → Int64) (t_det : Int64) (v7 : Int32) : Option (Int32 × (Nat → Int64) × Int64) := k12 t_mem t_row t_wide t_lost t_strain t_det (v7 + 1)
noncomputable def fX8_isWithin_74  (t_strain : Nat → Int64) (t_det : Int64) : Option (Int32 × (Nat → Int64) × Int64) := (if (lg_cmp t_det 0) = 0 then some ((0), t_strain, t_det) else some ((1), t_strain, t_det))
noncomputable def fX8_isWithin_12  : Nat → (Nat → Int32) → (Nat → Int32) → Int32 → Int32 → (Nat → Int64) → Int64 → Int32 → Option (Int32 × (Nat → Int64) × Int64)
  | 0, _, _, _, _, _, _, _ => none
  | n + 1, t_mem, t_row, t_wide, t_lost, t_strain, t_det, v7 => (if t_wide ≤ v7 then fX8_isWithin_74 t_strain t_det else (if (lg_cmp t_det 0) = 0 then some ((0), t_strain, t_det) else (if (fX8_has t_lost v7) = 0 then (fX8_along t_row t_strain v7).bind fun r9 => (fX8_limitOf t_mem t_row v7).bind fun r11 => (if (lg_cmp r9 (r11 * (labs t_det))) ≤ 0 then fX8_isWithin_68 (fX8_isWithin_12 n) t_mem t_row t_wide t_lost t_strain t_det v7 else some ((0), t_strain, t_det)) else fX8_isWithin_68 (fX8_isWithin_12 n) t_mem t_row t_wide t_lost t_strain t_det v7)))
theorem fX8_isWithin_12_z  (t_mem : Nat → Int32) (t_row : Nat → Int32) (t_wide : Int32) (t_lost : Int32) (t_strain : Nat → Int64) (t_det : Int64) (v7 : Int32) : fX8_isWithin_12  0 t_mem t_row t_wide t_lost t_strain t_det v7 = none := rfl
theorem fX8_isWithin_12_s  (n : Nat) (t_mem : Nat → Int32) (t_row : Nat → Int32) (t_wide : Int32) (t_lost : Int32) (t_strain : Nat → Int64) (t_det : Int64) (v7 : Int32) : fX8_isWithin_12  (n + 1) t_mem t_row t_wide t_lost t_strain t_det v7 = (if t_wide ≤ v7 then fX8_isWithin_74 t_strain t_det else (if (lg_cmp t_det 0) = 0 then some ((0), t_strain, t_det) else (if (fX8_has t_lost v7) = 0 then (fX8_along t_row t_strain v7).bind fun r9 => (fX8_limitOf t_mem t_row v7).bind fun r11 => (if (lg_cmp r9 (r11 * (labs t_det))) ≤ 0 then fX8_isWithin_68 (fX8_isWithin_12 n) t_mem t_row t_wide t_lost t_strain t_det v7 else some ((0), t_strain, t_det)) else fX8_isWithin_68 (fX8_isWithin_12 n) t_mem t_row t_wide t_lost t_strain t_det v7))) := rfl
noncomputable def fX8_isWithin  (t_mem : Nat → Int32) (t_row : Nat → Int32) (t_wide : Int32) (t_lost : Int32) (t_strain : Nat → Int64) (t_det : Int64) (v1 : Int64) (v3 : Int64) (v5 : Int64) : Option (Int32 × (Nat → Int64) × Int64) := ob2 (fX8_laysStrains t_mem t_row t_wide t_lost t_strain t_det 0 v1 v3 v5) fun w2 w3 => fX8_isWithin_12 FU t_mem t_row t_wide t_lost w2 w3 0
set_option maxHeartbeats 4000000 in
set_option maxRecDepth 100000 in
theorem ctX8_isWithin (l : Launch) (g : GT) (sz : Nat) (a_t : Nat → Nat) (t_acted : Int32) (t_taped : Int32) (t_faultKind : Int32) (t_faultPlace : Int32) (t_at : Int32) (t_begin : Int32) (t_token : Int32) (t_value : Int32) (t_bad : Int32) (t_wide : Int32) (t_lost : Int32) (t_det : Int64) (t_mask : Int32) (t_mode : Int32) (t_wanted : Int32) (t_orders : Int32) (t_foundAt : Int32) (t_foundBy : Int64) (t_unlikes : Int32) (t_mem : Nat → Int32) (t_row : Nat → Int32) (t_strain : Nat → Int64) (v1 : Int64) (v3 : Int64) (v5 : Int64) (o : Int32) (o_t_strain : Nat → Int64) (o_t_det : Int64) (h : fX8_isWithin t_mem t_row t_wide t_lost t_strain t_det v1 v3 v5 = some (o, o_t_strain, o_t_det)) : Met l yX8_isWithin (Cond.code yX8_isWithin cX8_isWithin 8 (some .boolean) :: Tw) ⟨5, 0, 0, 134⟩ (va_Pc [.ref ((a_t 0)), .long v1, .long v3, .long v5] (rwB g [((a_t 0), .inr (7, [.ref (a_t 1), .ref (a_t 2), .int t_acted, .ref (a_t 4), .ref (a_t 5), .ref (a_t 6), .ref (a_t 7), .ref (a_t 8), .ref (a_t 9), .int t_taped, .int t_faultKind, .int t_faultPlace, .int t_at, .int t_begin, .int t_token, .int t_value, .int t_bad, .ref (a_t 18), .ref (a_t 19), .ref (a_t 20), .int t_wide, .int t_lost, .ref (a_t 23), .long t_det, .ref (a_t 25), .int t_mask, .int t_mode, .int t_wanted, .int t_orders, .int t_foundAt, .long t_foundBy, .ref (a_t 32), .ref (a_t 33), .int t_unlikes, .ref (a_t 35), .ref (a_t 36)])), ((a_t 1), .inl (g.2.2.1 0, 27, .inl t_mem)), ((a_t 20), .inl (g.2.2.1 0, 8, .inl t_row)), ((a_t 23), .inl (g.2.2.1 1, 3, .inr (.inl t_strain)))] sz)) (va_Qi (fun x (_ : Nat → Nat) => x = o ∧ (x = 0 ∨ x = 1)) (fun u => rwE g (va_A [((a_t 0), .inr (7, [.ref (a_t 1), .ref (a_t 2), .int t_acted, .ref (a_t 4), .ref (a_t 5), .ref (a_t 6), .ref (a_t 7), .ref (a_t 8), .ref (a_t 9), .int t_taped, .int t_faultKind, .int t_faultPlace, .int t_at, .int t_begin, .int t_token, .int t_value, .int t_bad, .ref (a_t 18), .ref (a_t 19), .ref (a_t 20), .int t_wide, .int t_lost, .ref (a_t 23), .long t_det, .ref (a_t 25), .int t_mask, .int t_mode, .int t_wanted, .int t_orders, .int t_foundAt, .long t_foundBy, .ref (a_t 32), .ref (a_t 33), .int t_unlikes, .ref (a_t 35), .ref (a_t 36)])), ((a_t 1), .inl (g.2.2.1 0, 27, .inl t_mem)), ((a_t 20), .inl (g.2.2.1 0, 8, .inl t_row)), ((a_t 23), .inl (g.2.2.1 1, 3, .inr (.inl t_strain)))] sz) [((a_t 0), .inr (7, [.ref (a_t 1), .ref (a_t 2), .int t_acted, .ref (a_t 4), .ref (a_t 5), .ref (a_t 6), .ref (a_t 7), .ref (a_t 8), .ref (a_t 9), .int t_taped, .int t_faultKind, .int t_faultPlace, .int t_at, .int t_begin, .int t_token, .int t_value, .int t_bad, .ref (a_t 18), .ref (a_t 19), .ref (a_t 20), .int t_wide, .int t_lost, .ref (a_t 23), .long o_t_det, .ref (a_t 25), .int t_mask, .int t_mode, .int t_wanted, .int t_orders, .int t_foundAt, .long t_foundBy, .ref (a_t 32), .ref (a_t 33), .int t_unlikes, .ref (a_t 35), .ref (a_t 36)])), ((a_t 1), .inl (g.2.2.1 0, 27, .inl t_mem)), ((a_t 20), .inl (g.2.2.1 0, 8, .inl t_row)), ((a_t 23), .inl (g.2.2.1 1, 3, .inr (.inl o_t_strain)))]) (va_A [((a_t 0), .inr (7, [.ref (a_t 1), .ref (a_t 2), .int t_acted, .ref (a_t 4), .ref (a_t 5), .ref (a_t 6), .ref (a_t 7), .ref (a_t 8), .ref (a_t 9), .int t_taped, .int t_faultKind, .int t_faultPlace, .int t_at, .int t_begin, .int t_token, .int t_value, .int t_bad, .ref (a_t 18), .ref (a_t 19), .ref (a_t 20), .int t_wide, .int t_lost, .ref (a_t 23), .long t_det, .ref (a_t 25), .int t_mask, .int t_mode, .int t_wanted, .int t_orders, .int t_foundAt, .long t_foundBy, .ref (a_t 32), .ref (a_t 33), .int t_unlikes, .ref (a_t 35), .ref (a_t 36)])), ((a_t 1), .inl (g.2.2.1 0, 27, .inl t_mem)), ((a_t 20), .inl (g.2.2.1 0, 8, .inl t_row)), ((a_t 23), .inl (g.2.2.1 1, 3, .inr (.inl t_strain)))] sz)) 0 0 (va_A [((a_t 0), .inr (7, [.ref (a_t 1), .ref (a_t 2), .int t_acted, .ref (a_t 4), .ref (a_t 5), .ref (a_t 6), .ref (a_t 7), .ref (a_t 8), .ref (a_t 9), .int t_taped, .int t_faultKind, .int t_faultPlace, .int t_at, .int t_begin, .int t_token, .int t_value, .int t_bad, .ref (a_t 18), .ref (a_t 19), .ref (a_t 20), .int t_wide, .int t_lost, .ref (a_t 23), .long t_det, .ref (a_t 25), .int t_mask, .int t_mode, .int t_wanted, .int t_orders, .int t_foundAt, .long t_foundBy, .ref (a_t 32), .ref (a_t 33), .int t_unlikes, .ref (a_t 35), .ref (a_t 36)])), ((a_t 1), .inl (g.2.2.1 0, 27, .inl t_mem)), ((a_t 20), .inl (g.2.2.1 0, 8, .inl t_row)), ((a_t 23), .inl (g.2.2.1 1, 3, .inr (.inl t_strain)))] sz) := by
  refine rw_metz (by decide) (Nat.le_of_ble_eq_true rfl) (lv0 := [(0, .ref ((a_t 0))), (1, .long v1), (3, .long v3), (5, .long v5)]) rfl ?_
  intro p e s m args below meth c ls Q A cx hret hG hAb hb0 hA hP hD hl
  have hx := cx.1
  have hb := cx.2.1
  have hG0 := hG
  have hGk : ∀ {H : Heap} {locs : List Loc}, va_S A s.heap H locs → GE g s H := fun hS => hG0.keptS hAb hS
  have hSb : ∀ {H : Heap} {locs : List Loc}, va_S A s.heap H locs → va_S (fun a => g.1 ≤ a) s.heap H locs := fun hS => ⟨hS.1, fun q h1 h2 => hS.2.1 q h1 (fun z => h2 (hAb q z)), fun l hl => hAb _ (hS.2.2 l hl)⟩
  have hS : va_S A s.heap s.heap [] := va_S.rf
  have hrt : ∀ (u : Nat → Nat) (pc : Nat) (ls : Array Slot) (v : Int32) (x_t_strain : Nat → Int64) (x_t_det : Int64) (H : Heap) (locs : List Loc), decode cX8_isWithin pc = .ok (.ireturn, 1) → (v = 0 ∨ v = 1) → some (v, x_t_strain, x_t_det) = some (o, o_t_strain, o_t_det) → va_P g.2.1 vwCl [((a_t 0), .inr (7, [.ref (a_t 1), .ref (a_t 2), .int t_acted, .ref (a_t 4), .ref (a_t 5), .ref (a_t 6), .ref (a_t 7), .ref (a_t 8), .ref (a_t 9), .int t_taped, .int t_faultKind, .int t_faultPlace, .int t_at, .int t_begin, .int t_token, .int t_value, .int t_bad, .ref (a_t 18), .ref (a_t 19), .ref (a_t 20), .int t_wide, .int t_lost, .ref (a_t 23), .long x_t_det, .ref (a_t 25), .int t_mask, .int t_mode, .int t_wanted, .int t_orders, .int t_foundAt, .long t_foundBy, .ref (a_t 32), .ref (a_t 33), .int t_unlikes, .ref (a_t 35), .ref (a_t 36)])), ((a_t 1), .inl (g.2.2.1 0, 27, .inl t_mem)), ((a_t 20), .inl (g.2.2.1 0, 8, .inl t_row)), ((a_t 23), .inl (g.2.2.1 1, 3, .inr (.inl x_t_strain)))] H → va_D A [((a_t 0), .inr (7, [.ref (a_t 1), .ref (a_t 2), .int t_acted, .ref (a_t 4), .ref (a_t 5), .ref (a_t 6), .ref (a_t 7), .ref (a_t 8), .ref (a_t 9), .int t_taped, .int t_faultKind, .int t_faultPlace, .int t_at, .int t_begin, .int t_token, .int t_value, .int t_bad, .ref (a_t 18), .ref (a_t 19), .ref (a_t 20), .int t_wide, .int t_lost, .ref (a_t 23), .long x_t_det, .ref (a_t 25), .int t_mask, .int t_mode, .int t_wanted, .int t_orders, .int t_foundAt, .long t_foundBy, .ref (a_t 32), .ref (a_t 33), .int t_unlikes, .ref (a_t 35), .ref (a_t 36)])), ((a_t 1), .inl (g.2.2.1 0, 27, .inl t_mem)), ((a_t 20), .inl (g.2.2.1 0, 8, .inl t_row)), ((a_t 23), .inl (g.2.2.1 1, 3, .inr (.inl x_t_strain)))] → va_S A s.heap H locs → W p l e ⟨5, 0, 0, 134⟩ s m args below meth c H locs 0 0 Q (F0 m pc ls [.int v]) := by
    intro u pc ls v x_t_strain x_t_det H locs hd hz h hP hD hS
    cases h
    exact hret u _ _ _ _ _ hd hz rfl hP hD hS
  have w68 : ∀ (k12 : (Nat → Int32) → (Nat → Int32) → Int32 → Int32 → (Nat → Int64) → Int64 → Int32 → Option (Int32 × (Nat → Int64) × Int64)) (hk12 : ∀ (t_strain : Nat → Int64) (t_det : Int64) (v7 : Int32) (H : Heap) (locs : List Loc), va_P g.2.1 vwCl [((a_t 0), .inr (7, [.ref (a_t 1), .ref (a_t 2), .int t_acted, .ref (a_t 4), .ref (a_t 5), .ref (a_t 6), .ref (a_t 7), .ref (a_t 8), .ref (a_t 9), .int t_taped, .int t_faultKind, .int t_faultPlace, .int t_at, .int t_begin, .int t_token, .int t_value, .int t_bad, .ref (a_t 18), .ref (a_t 19), .ref (a_t 20), .int t_wide, .int t_lost, .ref (a_t 23), .long t_det, .ref (a_t 25), .int t_mask, .int t_mode, .int t_wanted, .int t_orders, .int t_foundAt, .long t_foundBy, .ref (a_t 32), .ref (a_t 33), .int t_unlikes, .ref (a_t 35), .ref (a_t 36)])), ((a_t 1), .inl (g.2.2.1 0, 27, .inl t_mem)), ((a_t 20), .inl (g.2.2.1 0, 8, .inl t_row)), ((a_t 23), .inl (g.2.2.1 1, 3, .inr (.inl t_strain)))] H → va_D A [((a_t 0), .inr (7, [.ref (a_t 1), .ref (a_t 2), .int t_acted, .ref (a_t 4), .ref (a_t 5), .ref (a_t 6), .ref (a_t 7), .ref (a_t 8), .ref (a_t 9), .int t_taped, .int t_faultKind, .int t_faultPlace, .int t_at, .int t_begin, .int t_token, .int t_value, .int t_bad, .ref (a_t 18), .ref (a_t 19), .ref (a_t 20), .int t_wide, .int t_lost, .ref (a_t 23), .long t_det, .ref (a_t 25), .int t_mask, .int t_mode, .int t_wanted, .int t_orders, .int t_foundAt, .long t_foundBy, .ref (a_t 32), .ref (a_t 33), .int t_unlikes, .ref (a_t 35), .ref (a_t 36)])), ((a_t 1), .inl (g.2.2.1 0, 27, .inl t_mem)), ((a_t 20), .inl (g.2.2.1 0, 8, .inl t_row)), ((a_t 23), .inl (g.2.2.1 1, 3, .inr (.inl t_strain)))] → va_S A s.heap H locs → ∀ (ls : Array Slot), lv_has ls 8 [(0, .ref ((a_t 0))), (7, .int v7)] → k12 t_mem t_row t_wide t_lost t_strain t_det v7 = some (o, o_t_strain, o_t_det) → W p l e ⟨5, 0, 0, 134⟩ s m args below meth c H locs 0 0 Q (F0 m 12 ls [])) (t_strain : Nat → Int64) (t_det : Int64) (v7 : Int32) (H : Heap) (locs : List Loc), va_P g.2.1 vwCl [((a_t 0), .inr (7, [.ref (a_t 1), .ref (a_t 2), .int t_acted, .ref (a_t 4), .ref (a_t 5), .ref (a_t 6), .ref (a_t 7), .ref (a_t 8), .ref (a_t 9), .int t_taped, .int t_faultKind, .int t_faultPlace, .int t_at, .int t_begin, .int t_token, .int t_value, .int t_bad, .ref (a_t 18), .ref (a_t 19), .ref (a_t 20), .int t_wide, .int t_lost, .ref (a_t 23), .long t_det, .ref (a_t 25), .int t_mask, .int t_mode, .int t_wanted, .int t_orders, .int t_foundAt, .long t_foundBy, .ref (a_t 32), .ref (a_t 33), .int t_unlikes, .ref (a_t 35), .ref (a_t 36)])), ((a_t 1), .inl (g.2.2.1 0, 27, .inl t_mem)), ((a_t 20), .inl (g.2.2.1 0, 8, .inl t_row)), ((a_t 23), .inl (g.2.2.1 1, 3, .inr (.inl t_strain)))] H → va_D A [((a_t 0), .inr (7, [.ref (a_t 1), .ref (a_t 2), .int t_acted, .ref (a_t 4), .ref (a_t 5), .ref (a_t 6), .ref (a_t 7), .ref (a_t 8), .ref (a_t 9), .int t_taped, .int t_faultKind, .int t_faultPlace, .int t_at, .int t_begin, .int t_token, .int t_value, .int t_bad, .ref (a_t 18), .ref (a_t 19), .ref (a_t 20), .int t_wide, .int t_lost, .ref (a_t 23), .long t_det, .ref (a_t 25), .int t_mask, .int t_mode, .int t_wanted, .int t_orders, .int t_foundAt, .long t_foundBy, .ref (a_t 32), .ref (a_t 33), .int t_unlikes, .ref (a_t 35), .ref (a_t 36)])), ((a_t 1), .inl (g.2.2.1 0, 27, .inl t_mem)), ((a_t 20), .inl (g.2.2.1 0, 8, .inl t_row)), ((a_t 23), .inl (g.2.2.1 1, 3, .inr (.inl t_strain)))] → va_S A s.heap H locs → ∀ (ls : Array Slot), lv_has ls 8 [(0, .ref ((a_t 0))), (7, .int v7)] → fX8_isWithin_68 k12 t_mem t_row t_wide t_lost t_strain t_det v7 = some (o, o_t_strain, o_t_det) → W p l e ⟨5, 0, 0, 134⟩ s m args below meth c H locs 0 0 Q (F0 m 68 ls []) := by
    intro k12 hk12 t_strain t_det v7 H locs hP hD hS ls hl h
    unfold fX8_isWithin_68 at h
    have hG := hGk hS
    refine lv_iinc (v := v7 + 1) (lv' := [(7, .int (v7 + 1)), (0, .ref ((a_t 0)))]) hx hb dX8_isWithin_68 hl (k := 1) rfl rfl (by decide) rfl (fun ls hl => ?_)
    refine lv_goto (tgt := 12) hx hb dX8_isWithin_71 (by decide) ?_
    exact hk12 t_strain t_det (v7 + 1) _ _ hP hD hS _ (lv_sub hl [1, 0] rfl) h
  have w74 : ∀ (t_strain : Nat → Int64) (t_det : Int64) (H : Heap) (locs : List Loc), va_P g.2.1 vwCl [((a_t 0), .inr (7, [.ref (a_t 1), .ref (a_t 2), .int t_acted, .ref (a_t 4), .ref (a_t 5), .ref (a_t 6), .ref (a_t 7), .ref (a_t 8), .ref (a_t 9), .int t_taped, .int t_faultKind, .int t_faultPlace, .int t_at, .int t_begin, .int t_token, .int t_value, .int t_bad, .ref (a_t 18), .ref (a_t 19), .ref (a_t 20), .int t_wide, .int t_lost, .ref (a_t 23), .long t_det, .ref (a_t 25), .int t_mask, .int t_mode, .int t_wanted, .int t_orders, .int t_foundAt, .long t_foundBy, .ref (a_t 32), .ref (a_t 33), .int t_unlikes, .ref (a_t 35), .ref (a_t 36)])), ((a_t 1), .inl (g.2.2.1 0, 27, .inl t_mem)), ((a_t 20), .inl (g.2.2.1 0, 8, .inl t_row)), ((a_t 23), .inl (g.2.2.1 1, 3, .inr (.inl t_strain)))] H → va_D A [((a_t 0), .inr (7, [.ref (a_t 1), .ref (a_t 2), .int t_acted, .ref (a_t 4), .ref (a_t 5), .ref (a_t 6), .ref (a_t 7), .ref (a_t 8), .ref (a_t 9), .int t_taped, .int t_faultKind, .int t_faultPlace, .int t_at, .int t_begin, .int t_token, .int t_value, .int t_bad, .ref (a_t 18), .ref (a_t 19), .ref (a_t 20), .int t_wide, .int t_lost, .ref (a_t 23), .long t_det, .ref (a_t 25), .int t_mask, .int t_mode, .int t_wanted, .int t_orders, .int t_foundAt, .long t_foundBy, .ref (a_t 32), .ref (a_t 33), .int t_unlikes, .ref (a_t 35), .ref (a_t 36)])), ((a_t 1), .inl (g.2.2.1 0, 27, .inl t_mem)), ((a_t 20), .inl (g.2.2.1 0, 8, .inl t_row)), ((a_t 23), .inl (g.2.2.1 1, 3, .inr (.inl t_strain)))] → va_S A s.heap H locs → ∀ (ls : Array Slot), lv_has ls 8 [(0, .ref ((a_t 0)))] → fX8_isWithin_74  t_strain t_det = some (o, o_t_strain, o_t_det) → W p l e ⟨5, 0, 0, 134⟩ s m args below meth c H locs 0 0 Q (F0 m 74 ls []) := by
    intro t_strain t_det H locs hP hD hS ls hl h
    unfold fX8_isWithin_74 at h
    have hG := hGk hS
    refine lv_aload_n hx hb dX8_isWithin_74 rfl (lv_at hl 0 rfl) ?_
    refine xa_get (C := RX8) (T := TX8) (N := 36) cx hG hP 0 rfl rfl uX8 23 (by decide) lf_X8_264 rfl dX8_isWithin_75 ?_
    refine lv_lconst (v := 0) hx hb dX8_isWithin_78 (by decide) ?_
    refine W.lcmp hx hb dX8_isWithin_79 ?_
    refine lv_if_eq (tgt := 87) hx hb dX8_isWithin_80 (by decide) (fun c14 => ?_) (fun c14 => ?_)
    · have h := itp c14 h
      refine lv_iconst (v := 0) hx hb dX8_isWithin_87 (by decide) ?_
      exact hrt (fun _ => 0) _ _ ((0)) t_strain t_det _ _ dX8_isWithin_88 (by decide) h (hP.sub [0, 1, 2, 3] rfl) (hD.sub [0, 1, 2, 3] (by decide) rfl) hS
    · have h := itn c14 h
      refine lv_iconst (v := 1) hx hb dX8_isWithin_83 (by decide) ?_
      refine lv_goto (tgt := 88) hx hb dX8_isWithin_84 (by decide) ?_
      exact hrt (fun _ => 0) _ _ ((1)) t_strain t_det _ _ dX8_isWithin_88 (by decide) h (hP.sub [0, 1, 2, 3] rfl) (hD.sub [0, 1, 2, 3] (by decide) rfl) hS
  have w12 : ∀ (n : Nat) (t_strain : Nat → Int64) (t_det : Int64) (v7 : Int32) (H : Heap) (locs : List Loc), va_P g.2.1 vwCl [((a_t 0), .inr (7, [.ref (a_t 1), .ref (a_t 2), .int t_acted, .ref (a_t 4), .ref (a_t 5), .ref (a_t 6), .ref (a_t 7), .ref (a_t 8), .ref (a_t 9), .int t_taped, .int t_faultKind, .int t_faultPlace, .int t_at, .int t_begin, .int t_token, .int t_value, .int t_bad, .ref (a_t 18), .ref (a_t 19), .ref (a_t 20), .int t_wide, .int t_lost, .ref (a_t 23), .long t_det, .ref (a_t 25), .int t_mask, .int t_mode, .int t_wanted, .int t_orders, .int t_foundAt, .long t_foundBy, .ref (a_t 32), .ref (a_t 33), .int t_unlikes, .ref (a_t 35), .ref (a_t 36)])), ((a_t 1), .inl (g.2.2.1 0, 27, .inl t_mem)), ((a_t 20), .inl (g.2.2.1 0, 8, .inl t_row)), ((a_t 23), .inl (g.2.2.1 1, 3, .inr (.inl t_strain)))] H → va_D A [((a_t 0), .inr (7, [.ref (a_t 1), .ref (a_t 2), .int t_acted, .ref (a_t 4), .ref (a_t 5), .ref (a_t 6), .ref (a_t 7), .ref (a_t 8), .ref (a_t 9), .int t_taped, .int t_faultKind, .int t_faultPlace, .int t_at, .int t_begin, .int t_token, .int t_value, .int t_bad, .ref (a_t 18), .ref (a_t 19), .ref (a_t 20), .int t_wide, .int t_lost, .ref (a_t 23), .long t_det, .ref (a_t 25), .int t_mask, .int t_mode, .int t_wanted, .int t_orders, .int t_foundAt, .long t_foundBy, .ref (a_t 32), .ref (a_t 33), .int t_unlikes, .ref (a_t 35), .ref (a_t 36)])), ((a_t 1), .inl (g.2.2.1 0, 27, .inl t_mem)), ((a_t 20), .inl (g.2.2.1 0, 8, .inl t_row)), ((a_t 23), .inl (g.2.2.1 1, 3, .inr (.inl t_strain)))] → va_S A s.heap H locs → ∀ (ls : Array Slot), lv_has ls 8 [(0, .ref ((a_t 0))), (7, .int v7)] → fX8_isWithin_12  n t_mem t_row t_wide t_lost t_strain t_det v7 = some (o, o_t_strain, o_t_det) → W p l e ⟨5, 0, 0, 134⟩ s m args below meth c H locs 0 0 Q (F0 m 12 ls []) := by
    intro n
    induction n with
    | zero => intro t_strain t_det v7 H locs hP hD hS ls hl h; cases (fX8_isWithin_12_z  t_mem t_row t_wide t_lost t_strain t_det v7).symm.trans h
    | succ n ih =>
    intro t_strain t_det v7 H locs hP hD hS ls hl h
    have h := (fX8_isWithin_12_s  n t_mem t_row t_wide t_lost t_strain t_det v7).symm.trans h
    have hG := hGk hS
    refine lv_iload hx hb dX8_isWithin_12 (lv_at hl 1 rfl) ?_
    refine lv_aload_n hx hb dX8_isWithin_14 rfl (lv_at hl 0 rfl) ?_
    refine xa_get (C := RX8) (T := TX8) (N := 36) cx hG hP 0 rfl rfl uX8 20 (by decide) lf_X8_206 rfl dX8_isWithin_15 ?_
    refine lv_icmp_ge (tgt := 74) hx hb dX8_isWithin_18 (by decide) (fun c5 => ?_) (fun c5 => ?_)
    · have h := itp c5 h
      exact w74 t_strain t_det _ _ hP hD hS _ (lv_sub hl [0] rfl) h
    · have h := itn c5 h
      refine lv_aload_n hx hb dX8_isWithin_21 rfl (lv_at hl 0 rfl) ?_
      refine xa_get (C := RX8) (T := TX8) (N := 36) cx hG hP 0 rfl rfl uX8 23 (by decide) lf_X8_264 rfl dX8_isWithin_22 ?_
      refine lv_lconst (v := 0) hx hb dX8_isWithin_25 (by decide) ?_
      refine W.lcmp hx hb dX8_isWithin_26 ?_
      refine lv_if_eq (tgt := 66) hx hb dX8_isWithin_27 (by decide) (fun c6 => ?_) (fun c6 => ?_)
      · have h := itp c6 h
        refine lv_iconst (v := 0) hx hb dX8_isWithin_66 (by decide) ?_
        exact hrt (fun _ => 0) _ _ ((0)) t_strain t_det _ _ dX8_isWithin_67 (by decide) h (hP.sub [0, 1, 2, 3] rfl) (hD.sub [0, 1, 2, 3] (by decide) rfl) hS
      · have h := itn c6 h
        refine lv_aload_n hx hb dX8_isWithin_30 rfl (lv_at hl 0 rfl) ?_
        refine xa_get (C := RX8) (T := TX8) (N := 36) cx hG hP 0 rfl rfl uX8 21 (by decide) lf_X8_209 rfl dX8_isWithin_31 ?_
        refine lv_iload hx hb dX8_isWithin_34 (lv_at hl 1 rfl) ?_
        refine ro_z (runS (As := [.int t_lost, .int v7]) (rest := []) cx hl.1 (ctX8_has l g t_lost v7 (fX8_has t_lost v7) rfl) kmX8_has ksX8_has lm_X8_212 ⟨rfl, rfl⟩ ⟨Nat.le_of_ble_eq_true rfl, Nat.le_of_ble_eq_true rfl⟩ (roS hG (hP.sub [] rfl)) rfl rfl (Nat.le_of_ble_eq_true rfl) dX8_isWithin_36 ⟨Nat.le_of_ble_eq_true rfl, Nat.le_of_ble_eq_true rfl⟩) (fun hz7 => ?_)
        refine lv_if_ne (tgt := 68) hx hb dX8_isWithin_39 (by decide) (fun c8 => ?_) (fun c8 => ?_)
        · have h := itn c8 h
          exact w68 _ ih t_strain t_det v7 _ _ hP hD hS _ (lv_sub hl [0, 1] rfl) h
        · have h := itp c8 h
          refine lv_aload_n hx hb dX8_isWithin_42 rfl (lv_at hl 0 rfl) ?_
          refine lv_iload hx hb dX8_isWithin_43 (lv_at hl 1 rfl) ?_
          obtain ⟨r9, hr10, h⟩ := bnd h
          refine ro_l (runV (As := [.int v7]) (rest := []) cx hl.1 (ctX8_along l g a_t t_acted t_taped t_faultKind t_faultPlace t_at t_begin t_token t_value t_bad t_wide t_lost t_det t_mask t_mode t_wanted t_orders t_foundAt t_foundBy t_unlikes t_row t_strain v7 r9 hr10) kmX8_along kvX8_along lm_X8_292 ⟨rfl, rfl⟩ ⟨Nat.le_of_ble_eq_true rfl, Nat.le_of_ble_eq_true rfl⟩ (roV (q0 := 0) (ci := 7) hG (hP.sub [0, 2, 3] rfl) hP rfl rfl) rfl rfl (Nat.le_of_ble_eq_true rfl) dX8_isWithin_45 ⟨Nat.le_of_ble_eq_true rfl, Nat.le_of_ble_eq_true rfl⟩) ?_
          refine lv_aload_n hx hb dX8_isWithin_48 rfl (lv_at hl 0 rfl) ?_
          refine lv_iload hx hb dX8_isWithin_49 (lv_at hl 1 rfl) ?_
          obtain ⟨r11, hr12, h⟩ := bnd h
          refine ro_l (runV (As := [.int v7]) (rest := [.long r9]) cx hl.1 (ctX8_limitOf l g a_t t_acted t_taped t_faultKind t_faultPlace t_at t_begin t_token t_value t_bad t_wide t_lost t_det t_mask t_mode t_wanted t_orders t_foundAt t_foundBy t_unlikes t_mem t_row v7 r11 hr12) kmX8_limitOf kvX8_limitOf lm_X8_295 ⟨rfl, rfl⟩ ⟨Nat.le_of_ble_eq_true rfl, Nat.le_of_ble_eq_true rfl⟩ (roV (q0 := 0) (ci := 7) hG (hP.sub [0, 1, 2] rfl) hP rfl rfl) rfl rfl (Nat.le_of_ble_eq_true rfl) dX8_isWithin_51 ⟨Nat.le_of_ble_eq_true rfl, Nat.le_of_ble_eq_true rfl⟩) ?_
          refine lv_aload_n hx hb dX8_isWithin_54 rfl (lv_at hl 0 rfl) ?_
          refine xa_get (C := RX8) (T := TX8) (N := 36) cx hG hP 0 rfl rfl uX8 23 (by decide) lf_X8_264 rfl dX8_isWithin_55 ?_
          refine xm_labs cx hl.1 lm_X8_3 ⟨ksJ9_abs_067f4, kmJ9_abs_067f4.2.1, kmJ9_abs_067f4.1⟩ (Nat.le_of_ble_eq_true rfl) (Nat.le_of_ble_eq_true rfl) (Nat.le_of_ble_eq_true rfl) (Nat.le_of_ble_eq_true rfl) dX8_isWithin_58 ?_
          refine lv_lmul hx hb dX8_isWithin_61 ?_
          refine W.lcmp hx hb dX8_isWithin_62 ?_
          refine lv_if_le (tgt := 68) hx hb dX8_isWithin_63 (by decide) (fun c13 => ?_) (fun c13 => ?_)
          · have h := itp c13 h
            exact w68 _ ih t_strain t_det v7 _ _ hP hD hS _ (lv_sub hl [0, 1] rfl) h
          · have h := itn c13 h
            refine lv_iconst (v := 0) hx hb dX8_isWithin_66 (by decide) ?_
            exact hrt (fun _ => 0) _ _ ((0)) t_strain t_det _ _ dX8_isWithin_67 (by decide) h (hP.sub [0, 1, 2, 3] rfl) (hD.sub [0, 1, 2, 3] (by decide) rfl) hS
  unfold fX8_isWithin at h
  refine lv_aload_n hx hb dX8_isWithin_0 rfl (lv_at hl 0 rfl) ?_
  refine lv_iconst (v := 0) hx hb dX8_isWithin_1 (by decide) ?_
  refine lv_lload_n hx hb dX8_isWithin_2 rfl (lv_at hl 1 rfl) ?_
  refine lv_lload_n hx hb dX8_isWithin_3 rfl (lv_at hl 2 rfl) ?_
  refine lv_lload hx hb dX8_isWithin_4 (lv_at hl 3 rfl) ?_
  obtain ⟨w2, w3, hr1, h⟩ := ob2_out h
  refine rw_v (WN := fun u4 => [((a_t 0), .inr (7, [.ref (a_t 1), .ref (a_t 2), .int t_acted, .ref (a_t 4), .ref (a_t 5), .ref (a_t 6), .ref (a_t 7), .ref (a_t 8), .ref (a_t 9), .int t_taped, .int t_faultKind, .int t_faultPlace, .int t_at, .int t_begin, .int t_token, .int t_value, .int t_bad, .ref (a_t 18), .ref (a_t 19), .ref (a_t 20), .int t_wide, .int t_lost, .ref (a_t 23), .long w3, .ref (a_t 25), .int t_mask, .int t_mode, .int t_wanted, .int t_orders, .int t_foundAt, .long t_foundBy, .ref (a_t 32), .ref (a_t 33), .int t_unlikes, .ref (a_t 35), .ref (a_t 36)])), ((a_t 1), .inl (g.2.2.1 0, 27, .inl t_mem)), ((a_t 20), .inl (g.2.2.1 0, 8, .inl t_row)), ((a_t 23), .inl (g.2.2.1 1, 3, .inr (.inl w2)))]) (wr := []) (runV (As := [.int (0), .long v1, .long v3, .long v5]) (rest := []) cx hl.1 (ctX8_laysStrains l g s.heap.size a_t t_acted t_taped t_faultKind t_faultPlace t_at t_begin t_token t_value t_bad t_wide t_lost t_det t_mask t_mode t_wanted t_orders t_foundAt t_foundBy t_unlikes t_mem t_row t_strain (0) v1 v3 v5 w2 w3 hr1) kmX8_laysStrains kvX8_laysStrains lm_X8_276 ⟨rfl, rfl⟩ ⟨Nat.le_of_ble_eq_true rfl, Nat.le_of_ble_eq_true rfl⟩ (rwV (q0 := 0) (ci := 7) hG (hP.sub [0, 1, 2, 3] rfl) (hD.sub [0, 1, 2, 3] (by decide) rfl) hAb hb0 hS hP rfl rfl) rfl rfl (Nat.le_of_ble_eq_true rfl) dX8_isWithin_6 ⟨Nat.le_of_ble_eq_true rfl, Nat.le_of_ble_eq_true rfl⟩) hP hD hS hA [0, 1, 2, 3] [] rfl rfl (by decide) (by decide) (fun _ => rfl) (fun u4 H locs hP hD hS => ?_)
  have hG := hGk hS
  refine lv_iconst (v := 0) hx hb dX8_isWithin_9 (by decide) ?_
  refine lv_istore (lv' := [(7, .int (0)), (0, .ref ((a_t 0))), (1, .long v1), (3, .long v3), (5, .long v5)]) hx hb dX8_isWithin_10 hl (by decide) rfl (fun ls hl => ?_)
  exact w12 FU w2 w3 0 _ _ hP hD hS _ (lv_sub hl [1, 0] rfl) h
-- X8_spared
theorem dX8_spared_0 : decode cX8_spared 0 = .ok (.aload_n 0, 1) := by decide +kernel
theorem dX8_spared_1 : decode cX8_spared 1 = .ok (.invokevirtual 236, 3) := by decide +kernel
theorem dX8_spared_4 : decode cX8_spared 4 = .ok (.ifCond .eq 12, 3) := by decide +kernel
theorem dX8_spared_7 : decode cX8_spared 7 = .ok (.iload_n 1, 1) := by decide +kernel
theorem dX8_spared_8 : decode cX8_spared 8 = .ok (.iload_n 2, 1) := by decide +kernel
theorem dX8_spared_9 : decode cX8_spared 9 = .ok (.iload_n 3, 1) := by decide +kernel
theorem dX8_spared_10 : decode cX8_spared 10 = .ok (.invokestatic 272, 3) := by decide +kernel
theorem dX8_spared_13 : decode cX8_spared 13 = .ok (.ifCond .ne 6, 3) := by decide +kernel
theorem dX8_spared_16 : decode cX8_spared 16 = .ok (.bipush (-2), 2) := by decide +kernel
theorem dX8_spared_18 : decode cX8_spared 18 = .ok (.ireturn, 1) := by decide +kernel
theorem dX8_spared_19 : decode cX8_spared 19 = .ok (.aload_n 0, 1) := by decide +kernel
theorem dX8_spared_20 : decode cX8_spared 20 = .ok (.invokevirtual 243, 3) := by decide +kernel
theorem dX8_spared_23 : decode cX8_spared 23 = .ok (.iconst 0, 1) := by decide +kernel
theorem dX8_spared_24 : decode cX8_spared 24 = .ok (.istore 4, 2) := by decide +kernel
theorem dX8_spared_26 : decode cX8_spared 26 = .ok (.iconst 0, 1) := by decide +kernel
theorem dX8_spared_27 : decode cX8_spared 27 = .ok (.istore 5, 2) := by decide +kernel
theorem dX8_spared_29 : decode cX8_spared 29 = .ok (.iload 5, 2) := by decide +kernel
theorem dX8_spared_31 : decode cX8_spared 31 = .ok (.aload_n 0, 1) := by decide +kernel
theorem dX8_spared_32 : decode cX8_spared 32 = .ok (.getfield 206, 3) := by decide +kernel
theorem dX8_spared_35 : decode cX8_spared 35 = .ok (.if_icmp .ge 43, 3) := by decide +kernel
theorem dX8_spared_38 : decode cX8_spared 38 = .ok (.aload_n 0, 1) := by decide +kernel
theorem dX8_spared_39 : decode cX8_spared 39 = .ok (.iconst 1, 1) := by decide +kernel
theorem dX8_spared_40 : decode cX8_spared 40 = .ok (.iload 5, 2) := by decide +kernel
theorem dX8_spared_42 : decode cX8_spared 42 = .ok (.ishl, 1) := by decide +kernel
theorem dX8_spared_43 : decode cX8_spared 43 = .ok (.putfield 209, 3) := by decide +kernel
theorem dX8_spared_46 : decode cX8_spared 46 = .ok (.iload 4, 2) := by decide +kernel
theorem dX8_spared_48 : decode cX8_spared 48 = .ok (.aload_n 0, 1) := by decide +kernel
theorem dX8_spared_49 : decode cX8_spared 49 = .ok (.iload_n 1, 1) := by decide +kernel
theorem dX8_spared_50 : decode cX8_spared 50 = .ok (.i2l, 1) := by decide +kernel
theorem dX8_spared_51 : decode cX8_spared 51 = .ok (.iload_n 2, 1) := by decide +kernel
theorem dX8_spared_52 : decode cX8_spared 52 = .ok (.i2l, 1) := by decide +kernel
theorem dX8_spared_53 : decode cX8_spared 53 = .ok (.iload_n 3, 1) := by decide +kernel
theorem dX8_spared_54 : decode cX8_spared 54 = .ok (.i2l, 1) := by decide +kernel
theorem dX8_spared_55 : decode cX8_spared 55 = .ok (.invokevirtual 300, 3) := by decide +kernel
theorem dX8_spared_58 : decode cX8_spared 58 = .ok (.ifCond .eq 10, 3) := by decide +kernel
theorem dX8_spared_61 : decode cX8_spared 61 = .ok (.iconst 1, 1) := by decide +kernel
theorem dX8_spared_62 : decode cX8_spared 62 = .ok (.iload 5, 2) := by decide +kernel
theorem dX8_spared_64 : decode cX8_spared 64 = .ok (.ishl, 1) := by decide +kernel
theorem dX8_spared_65 : decode cX8_spared 65 = .ok (.goto 4, 3) := by decide +kernel
theorem dX8_spared_68 : decode cX8_spared 68 = .ok (.iconst 0, 1) := by decide +kernel
theorem dX8_spared_69 : decode cX8_spared 69 = .ok (.ior, 1) := by decide +kernel
theorem dX8_spared_70 : decode cX8_spared 70 = .ok (.istore 4, 2) := by decide +kernel
theorem dX8_spared_72 : decode cX8_spared 72 = .ok (.iinc 5 1, 3) := by decide +kernel
theorem dX8_spared_75 : decode cX8_spared 75 = .ok (.goto (-46), 3) := by decide +kernel
theorem dX8_spared_78 : decode cX8_spared 78 = .ok (.iload 4, 2) := by decide +kernel
theorem dX8_spared_80 : decode cX8_spared 80 = .ok (.ireturn, 1) := by decide +kernel
noncomputable def fX8_spared_69 (k29 : (Nat → Int32) → (Nat → Int32) → Int32 → Int32 → (Nat → Int64) → Int64 → Int32 → Int32 → Int32 → Int32 → Int32 → Option (Int32 × (Nat → Int32) × Int32 × Int32 × (Nat → Int64) × Int64)) (t_mem : Nat → Int32) (t_row : Nat → Int32) (t_wide : Int32) (t_lost : Int32) (t_strain : Nat → Int64) (t_det : Int64) (v1 : Int32) (v2 : Int32) (v3 : Int32) (v5 : Int32) (z0 : Int32) (z1 : Int32) : Option (Int32 × (Nat → Int32) × Int32 × Int32 × (Nat → Int64) × Int64) := k29 t_mem t_row t_wide t_lost t_strain t_det v1 v2 v3 (z0 ||| z1) (v5 + 1)
noncomputable def fX8_spared_29  : Nat → (Nat → Int32) → (Nat → Int32) → Int32 → Int32 → (Nat → Int64) → Int64 → Int32 → Int32 → Int32 → Int32 → Int32 → Option (Int32 × (Nat → Int32) × Int32 × Int32 × (Nat → Int64) × Int64)
  | 0, _, _, _, _, _, _, _, _, _, _, _ => none
  | n + 1, t_mem, t_row, t_wide, t_lost, t_strain, t_det, v1, v2, v3, v4, v5 => (if t_wide ≤ v5 then some (v4, t_row, t_wide, t_lost, t_strain, t_det) else ob3 (fX8_isWithin t_mem t_row t_wide (1 <<< (v5 &&& 31)) t_strain t_det v1.toInt64 v2.toInt64 v3.toInt64) fun r14 w15 w16 => (if r14 = 0 then fX8_spared_69 (fX8_spared_29 n) t_mem t_row t_wide (1 <<< (v5 &&& 31)) w15 w16 v1 v2 v3 v5 v4 0 else fX8_spared_69 (fX8_spared_29 n) t_mem t_row t_wide (1 <<< (v5 &&& 31)) w15 w16 v1 v2 v3 v5 v4 (1 <<< (v5 &&& 31))))
theorem fX8_spared_29_z  (t_mem : Nat → Int32) (t_row : Nat → Int32) (t_wide : Int32) (t_lost : Int32) (t_strain : Nat → Int64) (t_det : Int64) (v1 : Int32) (v2 : Int32) (v3 : Int32) (v4 : Int32) (v5 : Int32) : fX8_spared_29  0 t_mem t_row t_wide t_lost t_strain t_det v1 v2 v3 v4 v5 = none := rfl
theorem fX8_spared_29_s  (n : Nat) (t_mem : Nat → Int32) (t_row : Nat → Int32) (t_wide : Int32) (t_lost : Int32) (t_strain : Nat → Int64) (t_det : Int64) (v1 : Int32) (v2 : Int32) (v3 : Int32) (v4 : Int32) (v5 : Int32) : fX8_spared_29  (n + 1) t_mem t_row t_wide t_lost t_strain t_det v1 v2 v3 v4 v5 = (if t_wide ≤ v5 then some (v4, t_row, t_wide, t_lost, t_strain, t_det) else ob3 (fX8_isWithin t_mem t_row t_wide (1 <<< (v5 &&& 31)) t_strain t_det v1.toInt64 v2.toInt64 v3.toInt64) fun r14 w15 w16 => (if r14 = 0 then fX8_spared_69 (fX8_spared_29 n) t_mem t_row t_wide (1 <<< (v5 &&& 31)) w15 w16 v1 v2 v3 v5 v4 0 else fX8_spared_69 (fX8_spared_29 n) t_mem t_row t_wide (1 <<< (v5 &&& 31)) w15 w16 v1 v2 v3 v5 v4 (1 <<< (v5 &&& 31)))) := rfl
noncomputable def fX8_spared  (t_mem : Nat → Int32) (t_row : Nat → Int32) (t_wide : Int32) (t_lost : Int32) (t_strain : Nat → Int64) (t_det : Int64) (v1 : Int32) (v2 : Int32) (v3 : Int32) : Option (Int32 × (Nat → Int32) × Int32 × Int32 × (Nat → Int64) × Int64) := (fX8_is t_mem).bind fun r1 => (if r1 = 0 then some ((-2), t_row, t_wide, t_lost, t_strain, t_det) else (if (fX8_areLoads v1 v2 v3) = 0 then some ((-2), t_row, t_wide, t_lost, t_strain, t_det) else ob3 (fX8_laysPlate t_mem t_row t_wide t_lost) fun w8 w9 w10 => fX8_spared_29 FU t_mem w8 w9 w10 t_strain t_det v1 v2 v3 0 0))
set_option maxHeartbeats 4000000 in
set_option maxRecDepth 100000 in
theorem ctX8_spared (l : Launch) (g : GT) (sz : Nat) (a_t : Nat → Nat) (t_acted : Int32) (t_taped : Int32) (t_faultKind : Int32) (t_faultPlace : Int32) (t_at : Int32) (t_begin : Int32) (t_token : Int32) (t_value : Int32) (t_bad : Int32) (t_wide : Int32) (t_lost : Int32) (t_det : Int64) (t_mask : Int32) (t_mode : Int32) (t_wanted : Int32) (t_orders : Int32) (t_foundAt : Int32) (t_foundBy : Int64) (t_unlikes : Int32) (t_mem : Nat → Int32) (t_row : Nat → Int32) (t_strain : Nat → Int64) (v1 : Int32) (v2 : Int32) (v3 : Int32) (o : Int32) (o_t_row : Nat → Int32) (o_t_wide : Int32) (o_t_lost : Int32) (o_t_strain : Nat → Int64) (o_t_det : Int64) (h : fX8_spared t_mem t_row t_wide t_lost t_strain t_det v1 v2 v3 = some (o, o_t_row, o_t_wide, o_t_lost, o_t_strain, o_t_det)) : Met l yX8_spared (Cond.code yX8_spared cX8_spared 6 (some .int) :: Tw) ⟨6, 0, 0, 161⟩ (va_Pc [.ref ((a_t 0)), .int v1, .int v2, .int v3] (rwB g [((a_t 0), .inr (7, [.ref (a_t 1), .ref (a_t 2), .int t_acted, .ref (a_t 4), .ref (a_t 5), .ref (a_t 6), .ref (a_t 7), .ref (a_t 8), .ref (a_t 9), .int t_taped, .int t_faultKind, .int t_faultPlace, .int t_at, .int t_begin, .int t_token, .int t_value, .int t_bad, .ref (a_t 18), .ref (a_t 19), .ref (a_t 20), .int t_wide, .int t_lost, .ref (a_t 23), .long t_det, .ref (a_t 25), .int t_mask, .int t_mode, .int t_wanted, .int t_orders, .int t_foundAt, .long t_foundBy, .ref (a_t 32), .ref (a_t 33), .int t_unlikes, .ref (a_t 35), .ref (a_t 36)])), ((a_t 1), .inl (g.2.2.1 0, 27, .inl t_mem)), ((a_t 20), .inl (g.2.2.1 0, 8, .inl t_row)), ((a_t 23), .inl (g.2.2.1 1, 3, .inr (.inl t_strain)))] sz)) (va_Qi (fun x (_ : Nat → Nat) => x = o) (fun u => rwE g (va_A [((a_t 0), .inr (7, [.ref (a_t 1), .ref (a_t 2), .int t_acted, .ref (a_t 4), .ref (a_t 5), .ref (a_t 6), .ref (a_t 7), .ref (a_t 8), .ref (a_t 9), .int t_taped, .int t_faultKind, .int t_faultPlace, .int t_at, .int t_begin, .int t_token, .int t_value, .int t_bad, .ref (a_t 18), .ref (a_t 19), .ref (a_t 20), .int t_wide, .int t_lost, .ref (a_t 23), .long t_det, .ref (a_t 25), .int t_mask, .int t_mode, .int t_wanted, .int t_orders, .int t_foundAt, .long t_foundBy, .ref (a_t 32), .ref (a_t 33), .int t_unlikes, .ref (a_t 35), .ref (a_t 36)])), ((a_t 1), .inl (g.2.2.1 0, 27, .inl t_mem)), ((a_t 20), .inl (g.2.2.1 0, 8, .inl t_row)), ((a_t 23), .inl (g.2.2.1 1, 3, .inr (.inl t_strain)))] sz) [((a_t 0), .inr (7, [.ref (a_t 1), .ref (a_t 2), .int t_acted, .ref (a_t 4), .ref (a_t 5), .ref (a_t 6), .ref (a_t 7), .ref (a_t 8), .ref (a_t 9), .int t_taped, .int t_faultKind, .int t_faultPlace, .int t_at, .int t_begin, .int t_token, .int t_value, .int t_bad, .ref (a_t 18), .ref (a_t 19), .ref (a_t 20), .int o_t_wide, .int o_t_lost, .ref (a_t 23), .long o_t_det, .ref (a_t 25), .int t_mask, .int t_mode, .int t_wanted, .int t_orders, .int t_foundAt, .long t_foundBy, .ref (a_t 32), .ref (a_t 33), .int t_unlikes, .ref (a_t 35), .ref (a_t 36)])), ((a_t 1), .inl (g.2.2.1 0, 27, .inl t_mem)), ((a_t 20), .inl (g.2.2.1 0, 8, .inl o_t_row)), ((a_t 23), .inl (g.2.2.1 1, 3, .inr (.inl o_t_strain)))]) (va_A [((a_t 0), .inr (7, [.ref (a_t 1), .ref (a_t 2), .int t_acted, .ref (a_t 4), .ref (a_t 5), .ref (a_t 6), .ref (a_t 7), .ref (a_t 8), .ref (a_t 9), .int t_taped, .int t_faultKind, .int t_faultPlace, .int t_at, .int t_begin, .int t_token, .int t_value, .int t_bad, .ref (a_t 18), .ref (a_t 19), .ref (a_t 20), .int t_wide, .int t_lost, .ref (a_t 23), .long t_det, .ref (a_t 25), .int t_mask, .int t_mode, .int t_wanted, .int t_orders, .int t_foundAt, .long t_foundBy, .ref (a_t 32), .ref (a_t 33), .int t_unlikes, .ref (a_t 35), .ref (a_t 36)])), ((a_t 1), .inl (g.2.2.1 0, 27, .inl t_mem)), ((a_t 20), .inl (g.2.2.1 0, 8, .inl t_row)), ((a_t 23), .inl (g.2.2.1 1, 3, .inr (.inl t_strain)))] sz)) 0 0 (va_A [((a_t 0), .inr (7, [.ref (a_t 1), .ref (a_t 2), .int t_acted, .ref (a_t 4), .ref (a_t 5), .ref (a_t 6), .ref (a_t 7), .ref (a_t 8), .ref (a_t 9), .int t_taped, .int t_faultKind, .int t_faultPlace, .int t_at, .int t_begin, .int t_token, .int t_value, .int t_bad, .ref (a_t 18), .ref (a_t 19), .ref (a_t 20), .int t_wide, .int t_lost, .ref (a_t 23), .long t_det, .ref (a_t 25), .int t_mask, .int t_mode, .int t_wanted, .int t_orders, .int t_foundAt, .long t_foundBy, .ref (a_t 32), .ref (a_t 33), .int t_unlikes, .ref (a_t 35), .ref (a_t 36)])), ((a_t 1), .inl (g.2.2.1 0, 27, .inl t_mem)), ((a_t 20), .inl (g.2.2.1 0, 8, .inl t_row)), ((a_t 23), .inl (g.2.2.1 1, 3, .inr (.inl t_strain)))] sz) := by
  refine rw_meti (by decide) (Nat.le_of_ble_eq_true rfl) (lv0 := [(0, .ref ((a_t 0))), (1, .int v1), (2, .int v2), (3, .int v3)]) rfl ?_
  intro p e s m args below meth c ls Q A cx hret hG hAb hb0 hA hP hD hl
  have hx := cx.1
  have hb := cx.2.1
  have hG0 := hG
  have hGk : ∀ {H : Heap} {locs : List Loc}, va_S A s.heap H locs → GE g s H := fun hS => hG0.keptS hAb hS
  have hSb : ∀ {H : Heap} {locs : List Loc}, va_S A s.heap H locs → va_S (fun a => g.1 ≤ a) s.heap H locs := fun hS => ⟨hS.1, fun q h1 h2 => hS.2.1 q h1 (fun z => h2 (hAb q z)), fun l hl => hAb _ (hS.2.2 l hl)⟩
  have hS : va_S A s.heap s.heap [] := va_S.rf
  have hrt : ∀ (u : Nat → Nat) (pc : Nat) (ls : Array Slot) (v : Int32) (x_t_row : Nat → Int32) (x_t_wide : Int32) (x_t_lost : Int32) (x_t_strain : Nat → Int64) (x_t_det : Int64) (H : Heap) (locs : List Loc), decode cX8_spared pc = .ok (.ireturn, 1) → some (v, x_t_row, x_t_wide, x_t_lost, x_t_strain, x_t_det) = some (o, o_t_row, o_t_wide, o_t_lost, o_t_strain, o_t_det) → va_P g.2.1 vwCl [((a_t 0), .inr (7, [.ref (a_t 1), .ref (a_t 2), .int t_acted, .ref (a_t 4), .ref (a_t 5), .ref (a_t 6), .ref (a_t 7), .ref (a_t 8), .ref (a_t 9), .int t_taped, .int t_faultKind, .int t_faultPlace, .int t_at, .int t_begin, .int t_token, .int t_value, .int t_bad, .ref (a_t 18), .ref (a_t 19), .ref (a_t 20), .int x_t_wide, .int x_t_lost, .ref (a_t 23), .long x_t_det, .ref (a_t 25), .int t_mask, .int t_mode, .int t_wanted, .int t_orders, .int t_foundAt, .long t_foundBy, .ref (a_t 32), .ref (a_t 33), .int t_unlikes, .ref (a_t 35), .ref (a_t 36)])), ((a_t 1), .inl (g.2.2.1 0, 27, .inl t_mem)), ((a_t 20), .inl (g.2.2.1 0, 8, .inl x_t_row)), ((a_t 23), .inl (g.2.2.1 1, 3, .inr (.inl x_t_strain)))] H → va_D A [((a_t 0), .inr (7, [.ref (a_t 1), .ref (a_t 2), .int t_acted, .ref (a_t 4), .ref (a_t 5), .ref (a_t 6), .ref (a_t 7), .ref (a_t 8), .ref (a_t 9), .int t_taped, .int t_faultKind, .int t_faultPlace, .int t_at, .int t_begin, .int t_token, .int t_value, .int t_bad, .ref (a_t 18), .ref (a_t 19), .ref (a_t 20), .int x_t_wide, .int x_t_lost, .ref (a_t 23), .long x_t_det, .ref (a_t 25), .int t_mask, .int t_mode, .int t_wanted, .int t_orders, .int t_foundAt, .long t_foundBy, .ref (a_t 32), .ref (a_t 33), .int t_unlikes, .ref (a_t 35), .ref (a_t 36)])), ((a_t 1), .inl (g.2.2.1 0, 27, .inl t_mem)), ((a_t 20), .inl (g.2.2.1 0, 8, .inl x_t_row)), ((a_t 23), .inl (g.2.2.1 1, 3, .inr (.inl x_t_strain)))] → va_S A s.heap H locs → W p l e ⟨6, 0, 0, 161⟩ s m args below meth c H locs 0 0 Q (F0 m pc ls [.int v]) := by
    intro u pc ls v x_t_row x_t_wide x_t_lost x_t_strain x_t_det H locs hd h hP hD hS
    cases h
    exact hret u _ _ _ _ _ hd rfl hP hD hS
  have w69 : ∀ (k29 : (Nat → Int32) → (Nat → Int32) → Int32 → Int32 → (Nat → Int64) → Int64 → Int32 → Int32 → Int32 → Int32 → Int32 → Option (Int32 × (Nat → Int32) × Int32 × Int32 × (Nat → Int64) × Int64)) (hk29 : ∀ (t_row : Nat → Int32) (t_wide : Int32) (t_lost : Int32) (t_strain : Nat → Int64) (t_det : Int64) (v1 : Int32) (v2 : Int32) (v3 : Int32) (v4 : Int32) (v5 : Int32) (H : Heap) (locs : List Loc), va_P g.2.1 vwCl [((a_t 0), .inr (7, [.ref (a_t 1), .ref (a_t 2), .int t_acted, .ref (a_t 4), .ref (a_t 5), .ref (a_t 6), .ref (a_t 7), .ref (a_t 8), .ref (a_t 9), .int t_taped, .int t_faultKind, .int t_faultPlace, .int t_at, .int t_begin, .int t_token, .int t_value, .int t_bad, .ref (a_t 18), .ref (a_t 19), .ref (a_t 20), .int t_wide, .int t_lost, .ref (a_t 23), .long t_det, .ref (a_t 25), .int t_mask, .int t_mode, .int t_wanted, .int t_orders, .int t_foundAt, .long t_foundBy, .ref (a_t 32), .ref (a_t 33), .int t_unlikes, .ref (a_t 35), .ref (a_t 36)])), ((a_t 1), .inl (g.2.2.1 0, 27, .inl t_mem)), ((a_t 20), .inl (g.2.2.1 0, 8, .inl t_row)), ((a_t 23), .inl (g.2.2.1 1, 3, .inr (.inl t_strain)))] H → va_D A [((a_t 0), .inr (7, [.ref (a_t 1), .ref (a_t 2), .int t_acted, .ref (a_t 4), .ref (a_t 5), .ref (a_t 6), .ref (a_t 7), .ref (a_t 8), .ref (a_t 9), .int t_taped, .int t_faultKind, .int t_faultPlace, .int t_at, .int t_begin, .int t_token, .int t_value, .int t_bad, .ref (a_t 18), .ref (a_t 19), .ref (a_t 20), .int t_wide, .int t_lost, .ref (a_t 23), .long t_det, .ref (a_t 25), .int t_mask, .int t_mode, .int t_wanted, .int t_orders, .int t_foundAt, .long t_foundBy, .ref (a_t 32), .ref (a_t 33), .int t_unlikes, .ref (a_t 35), .ref (a_t 36)])), ((a_t 1), .inl (g.2.2.1 0, 27, .inl t_mem)), ((a_t 20), .inl (g.2.2.1 0, 8, .inl t_row)), ((a_t 23), .inl (g.2.2.1 1, 3, .inr (.inl t_strain)))] → va_S A s.heap H locs → ∀ (ls : Array Slot), lv_has ls 6 [(0, .ref ((a_t 0))), (1, .int v1), (2, .int v2), (3, .int v3), (4, .int v4), (5, .int v5)] → k29 t_mem t_row t_wide t_lost t_strain t_det v1 v2 v3 v4 v5 = some (o, o_t_row, o_t_wide, o_t_lost, o_t_strain, o_t_det) → W p l e ⟨6, 0, 0, 161⟩ s m args below meth c H locs 0 0 Q (F0 m 29 ls [])) (t_row : Nat → Int32) (t_wide : Int32) (t_lost : Int32) (t_strain : Nat → Int64) (t_det : Int64) (v1 : Int32) (v2 : Int32) (v3 : Int32) (v5 : Int32) (z0 : Int32) (z1 : Int32) (H : Heap) (locs : List Loc), va_P g.2.1 vwCl [((a_t 0), .inr (7, [.ref (a_t 1), .ref (a_t 2), .int t_acted, .ref (a_t 4), .ref (a_t 5), .ref (a_t 6), .ref (a_t 7), .ref (a_t 8), .ref (a_t 9), .int t_taped, .int t_faultKind, .int t_faultPlace, .int t_at, .int t_begin, .int t_token, .int t_value, .int t_bad, .ref (a_t 18), .ref (a_t 19), .ref (a_t 20), .int t_wide, .int t_lost, .ref (a_t 23), .long t_det, .ref (a_t 25), .int t_mask, .int t_mode, .int t_wanted, .int t_orders, .int t_foundAt, .long t_foundBy, .ref (a_t 32), .ref (a_t 33), .int t_unlikes, .ref (a_t 35), .ref (a_t 36)])), ((a_t 1), .inl (g.2.2.1 0, 27, .inl t_mem)), ((a_t 20), .inl (g.2.2.1 0, 8, .inl t_row)), ((a_t 23), .inl (g.2.2.1 1, 3, .inr (.inl t_strain)))] H → va_D A [((a_t 0), .inr (7, [.ref (a_t 1), .ref (a_t 2), .int t_acted, .ref (a_t 4), .ref (a_t 5), .ref (a_t 6), .ref (a_t 7), .ref (a_t 8), .ref (a_t 9), .int t_taped, .int t_faultKind, .int t_faultPlace, .int t_at, .int t_begin, .int t_token, .int t_value, .int t_bad, .ref (a_t 18), .ref (a_t 19), .ref (a_t 20), .int t_wide, .int t_lost, .ref (a_t 23), .long t_det, .ref (a_t 25), .int t_mask, .int t_mode, .int t_wanted, .int t_orders, .int t_foundAt, .long t_foundBy, .ref (a_t 32), .ref (a_t 33), .int t_unlikes, .ref (a_t 35), .ref (a_t 36)])), ((a_t 1), .inl (g.2.2.1 0, 27, .inl t_mem)), ((a_t 20), .inl (g.2.2.1 0, 8, .inl t_row)), ((a_t 23), .inl (g.2.2.1 1, 3, .inr (.inl t_strain)))] → va_S A s.heap H locs → ∀ (ls : Array Slot), lv_has ls 6 [(0, .ref ((a_t 0))), (1, .int v1), (2, .int v2), (3, .int v3), (5, .int v5)] → fX8_spared_69 k29 t_mem t_row t_wide t_lost t_strain t_det v1 v2 v3 v5 z0 z1 = some (o, o_t_row, o_t_wide, o_t_lost, o_t_strain, o_t_det) → W p l e ⟨6, 0, 0, 161⟩ s m args below meth c H locs 0 0 Q (F0 m 69 ls [.int z1, .int z0]) := by
    intro k29 hk29 t_row t_wide t_lost t_strain t_det v1 v2 v3 v5 z0 z1 H locs hP hD hS ls hl h
    unfold fX8_spared_69 at h
    have hG := hGk hS
    refine lv_ior hx hb dX8_spared_69 ?_
    refine lv_istore (lv' := [(4, .int (z0 ||| z1)), (0, .ref ((a_t 0))), (1, .int v1), (2, .int v2), (3, .int v3), (5, .int v5)]) hx hb dX8_spared_70 hl (by decide) rfl (fun ls hl => ?_)
    refine lv_iinc (v := v5 + 1) (lv' := [(5, .int (v5 + 1)), (4, .int (z0 ||| z1)), (0, .ref ((a_t 0))), (1, .int v1), (2, .int v2), (3, .int v3)]) hx hb dX8_spared_72 hl (k := 5) rfl rfl (by decide) rfl (fun ls hl => ?_)
    refine lv_goto (tgt := 29) hx hb dX8_spared_75 (by decide) ?_
    exact hk29 t_row t_wide t_lost t_strain t_det v1 v2 v3 (z0 ||| z1) (v5 + 1) _ _ hP hD hS _ (lv_sub hl [2, 3, 4, 5, 1, 0] rfl) h
  have w29 : ∀ (n : Nat) (t_row : Nat → Int32) (t_wide : Int32) (t_lost : Int32) (t_strain : Nat → Int64) (t_det : Int64) (v1 : Int32) (v2 : Int32) (v3 : Int32) (v4 : Int32) (v5 : Int32) (H : Heap) (locs : List Loc), va_P g.2.1 vwCl [((a_t 0), .inr (7, [.ref (a_t 1), .ref (a_t 2), .int t_acted, .ref (a_t 4), .ref (a_t 5), .ref (a_t 6), .ref (a_t 7), .ref (a_t 8), .ref (a_t 9), .int t_taped, .int t_faultKind, .int t_faultPlace, .int t_at, .int t_begin, .int t_token, .int t_value, .int t_bad, .ref (a_t 18), .ref (a_t 19), .ref (a_t 20), .int t_wide, .int t_lost, .ref (a_t 23), .long t_det, .ref (a_t 25), .int t_mask, .int t_mode, .int t_wanted, .int t_orders, .int t_foundAt, .long t_foundBy, .ref (a_t 32), .ref (a_t 33), .int t_unlikes, .ref (a_t 35), .ref (a_t 36)])), ((a_t 1), .inl (g.2.2.1 0, 27, .inl t_mem)), ((a_t 20), .inl (g.2.2.1 0, 8, .inl t_row)), ((a_t 23), .inl (g.2.2.1 1, 3, .inr (.inl t_strain)))] H → va_D A [((a_t 0), .inr (7, [.ref (a_t 1), .ref (a_t 2), .int t_acted, .ref (a_t 4), .ref (a_t 5), .ref (a_t 6), .ref (a_t 7), .ref (a_t 8), .ref (a_t 9), .int t_taped, .int t_faultKind, .int t_faultPlace, .int t_at, .int t_begin, .int t_token, .int t_value, .int t_bad, .ref (a_t 18), .ref (a_t 19), .ref (a_t 20), .int t_wide, .int t_lost, .ref (a_t 23), .long t_det, .ref (a_t 25), .int t_mask, .int t_mode, .int t_wanted, .int t_orders, .int t_foundAt, .long t_foundBy, .ref (a_t 32), .ref (a_t 33), .int t_unlikes, .ref (a_t 35), .ref (a_t 36)])), ((a_t 1), .inl (g.2.2.1 0, 27, .inl t_mem)), ((a_t 20), .inl (g.2.2.1 0, 8, .inl t_row)), ((a_t 23), .inl (g.2.2.1 1, 3, .inr (.inl t_strain)))] → va_S A s.heap H locs → ∀ (ls : Array Slot), lv_has ls 6 [(0, .ref ((a_t 0))), (1, .int v1), (2, .int v2), (3, .int v3), (4, .int v4), (5, .int v5)] → fX8_spared_29  n t_mem t_row t_wide t_lost t_strain t_det v1 v2 v3 v4 v5 = some (o, o_t_row, o_t_wide, o_t_lost, o_t_strain, o_t_det) → W p l e ⟨6, 0, 0, 161⟩ s m args below meth c H locs 0 0 Q (F0 m 29 ls []) := by
    intro n
    induction n with
    | zero => intro t_row t_wide t_lost t_strain t_det v1 v2 v3 v4 v5 H locs hP hD hS ls hl h; cases (fX8_spared_29_z  t_mem t_row t_wide t_lost t_strain t_det v1 v2 v3 v4 v5).symm.trans h
    | succ n ih =>
    intro t_row t_wide t_lost t_strain t_det v1 v2 v3 v4 v5 H locs hP hD hS ls hl h
    have h := (fX8_spared_29_s  n t_mem t_row t_wide t_lost t_strain t_det v1 v2 v3 v4 v5).symm.trans h
    have hG := hGk hS
    refine lv_iload hx hb dX8_spared_29 (lv_at hl 5 rfl) ?_
    refine lv_aload_n hx hb dX8_spared_31 rfl (lv_at hl 0 rfl) ?_
    refine xa_get (C := RX8) (T := TX8) (N := 36) cx hG hP 0 rfl rfl uX8 20 (by decide) lf_X8_206 rfl dX8_spared_32 ?_
    refine lv_icmp_ge (tgt := 78) hx hb dX8_spared_35 (by decide) (fun c12 => ?_) (fun c12 => ?_)
    · have h := itp c12 h
      refine lv_iload hx hb dX8_spared_78 (lv_at hl 4 rfl) ?_
      exact hrt (fun _ => 0) _ _ v4 t_row t_wide t_lost t_strain t_det _ _ dX8_spared_80 h (hP.sub [0, 1, 2, 3] rfl) (hD.sub [0, 1, 2, 3] (by decide) rfl) hS
    · have h := itn c12 h
      refine lv_aload_n hx hb dX8_spared_38 rfl (lv_at hl 0 rfl) ?_
      refine lv_iconst (v := 1) hx hb dX8_spared_39 (by decide) ?_
      refine lv_iload hx hb dX8_spared_40 (lv_at hl 5 rfl) ?_
      refine lv_ishl hx hb dX8_spared_42 ?_
      refine xw_put (C := RX8) (T := TX8) (N := 36) (ty := .int) (v := .int (1 <<< (v5 &&& 31))) (ws' := [((a_t 0), .inr (7, [.ref (a_t 1), .ref (a_t 2), .int t_acted, .ref (a_t 4), .ref (a_t 5), .ref (a_t 6), .ref (a_t 7), .ref (a_t 8), .ref (a_t 9), .int t_taped, .int t_faultKind, .int t_faultPlace, .int t_at, .int t_begin, .int t_token, .int t_value, .int t_bad, .ref (a_t 18), .ref (a_t 19), .ref (a_t 20), .int t_wide, .int (1 <<< (v5 &&& 31)), .ref (a_t 23), .long t_det, .ref (a_t 25), .int t_mask, .int t_mode, .int t_wanted, .int t_orders, .int t_foundAt, .long t_foundBy, .ref (a_t 32), .ref (a_t 33), .int t_unlikes, .ref (a_t 35), .ref (a_t 36)])), ((a_t 1), .inl (g.2.2.1 0, 27, .inl t_mem)), ((a_t 20), .inl (g.2.2.1 0, 8, .inl t_row)), ((a_t 23), .inl (g.2.2.1 1, 3, .inr (.inl t_strain)))]) cx hG hP hD hS 0 rfl rfl uX8 tyX8 tyX8_ok nmX8 21 (by decide) lf_X8_209 rfl (by decide +kernel) rfl rfl (Nat.le_of_ble_eq_true rfl) rfl dX8_spared_43 (fun H locs hP hD hS => ?_)
      have hG := hGk hS
      refine lv_iload hx hb dX8_spared_46 (lv_at hl 4 rfl) ?_
      refine lv_aload_n hx hb dX8_spared_48 rfl (lv_at hl 0 rfl) ?_
      refine lv_iload_n hx hb dX8_spared_49 rfl (lv_at hl 1 rfl) ?_
      refine lv_i2l (v := v1.toInt64) hx hb dX8_spared_50 rfl ?_
      refine lv_iload_n hx hb dX8_spared_51 rfl (lv_at hl 2 rfl) ?_
      refine lv_i2l (v := v2.toInt64) hx hb dX8_spared_52 rfl ?_
      refine lv_iload_n hx hb dX8_spared_53 rfl (lv_at hl 3 rfl) ?_
      refine lv_i2l (v := v3.toInt64) hx hb dX8_spared_54 rfl ?_
      obtain ⟨r14, w15, w16, hr13, h⟩ := ob3_out h
      refine rw_z (WN := fun u17 => [((a_t 0), .inr (7, [.ref (a_t 1), .ref (a_t 2), .int t_acted, .ref (a_t 4), .ref (a_t 5), .ref (a_t 6), .ref (a_t 7), .ref (a_t 8), .ref (a_t 9), .int t_taped, .int t_faultKind, .int t_faultPlace, .int t_at, .int t_begin, .int t_token, .int t_value, .int t_bad, .ref (a_t 18), .ref (a_t 19), .ref (a_t 20), .int t_wide, .int (1 <<< (v5 &&& 31)), .ref (a_t 23), .long w16, .ref (a_t 25), .int t_mask, .int t_mode, .int t_wanted, .int t_orders, .int t_foundAt, .long t_foundBy, .ref (a_t 32), .ref (a_t 33), .int t_unlikes, .ref (a_t 35), .ref (a_t 36)])), ((a_t 1), .inl (g.2.2.1 0, 27, .inl t_mem)), ((a_t 20), .inl (g.2.2.1 0, 8, .inl t_row)), ((a_t 23), .inl (g.2.2.1 1, 3, .inr (.inl w15)))]) (wr := []) (runV (As := [.long v1.toInt64, .long v2.toInt64, .long v3.toInt64]) (rest := [.int v4]) cx hl.1 (ctX8_isWithin l g H.size a_t t_acted t_taped t_faultKind t_faultPlace t_at t_begin t_token t_value t_bad t_wide (1 <<< (v5 &&& 31)) t_det t_mask t_mode t_wanted t_orders t_foundAt t_foundBy t_unlikes t_mem t_row t_strain v1.toInt64 v2.toInt64 v3.toInt64 r14 w15 w16 hr13) kmX8_isWithin kvX8_isWithin lm_X8_300 ⟨rfl, rfl⟩ ⟨Nat.le_of_ble_eq_true rfl, Nat.le_of_ble_eq_true rfl⟩ (rwV (q0 := 0) (ci := 7) hG (hP.sub [0, 1, 2, 3] rfl) (hD.sub [0, 1, 2, 3] (by decide) rfl) hAb hb0 hS hP rfl rfl) rfl rfl (Nat.le_of_ble_eq_true rfl) dX8_spared_55 ⟨Nat.le_of_ble_eq_true rfl, Nat.le_of_ble_eq_true rfl⟩) hP hD hS hA [0, 1, 2, 3] [] rfl rfl (by decide) (by decide) (fun _ => rfl) (fun hz18 u17 H locs hP hD hS => ?_)
      have hG := hGk hS
      refine lv_if_eq (tgt := 68) hx hb dX8_spared_58 (by decide) (fun c19 => ?_) (fun c19 => ?_)
      · have h := itp c19 h
        refine lv_iconst (v := 0) hx hb dX8_spared_68 (by decide) ?_
        exact w69 _ ih t_row t_wide (1 <<< (v5 &&& 31)) w15 w16 v1 v2 v3 v5 v4 0 _ _ hP hD hS _ (lv_sub hl [0, 1, 2, 3, 5] rfl) h
      · have h := itn c19 h
        refine lv_iconst (v := 1) hx hb dX8_spared_61 (by decide) ?_
        refine lv_iload hx hb dX8_spared_62 (lv_at hl 5 rfl) ?_
        refine lv_ishl hx hb dX8_spared_64 ?_
        refine lv_goto (tgt := 69) hx hb dX8_spared_65 (by decide) ?_
        exact w69 _ ih t_row t_wide (1 <<< (v5 &&& 31)) w15 w16 v1 v2 v3 v5 v4 (1 <<< (v5 &&& 31)) _ _ hP hD hS _ (lv_sub hl [0, 1, 2, 3, 5] rfl) h
  unfold fX8_spared at h
  refine lv_aload_n hx hb dX8_spared_0 rfl (lv_at hl 0 rfl) ?_
  obtain ⟨r1, hr2, h⟩ := bnd h
  refine ro_z (runV (As := []) (rest := []) cx hl.1 (ctX8_is l g a_t t_acted t_taped t_faultKind t_faultPlace t_at t_begin t_token t_value t_bad t_wide t_lost t_det t_mask t_mode t_wanted t_orders t_foundAt t_foundBy t_unlikes t_mem r1 hr2) kmX8_is kvX8_is lm_X8_236 ⟨rfl, rfl⟩ ⟨Nat.le_of_ble_eq_true rfl, Nat.le_of_ble_eq_true rfl⟩ (roV (q0 := 0) (ci := 7) hG (hP.sub [0, 1] rfl) hP rfl rfl) rfl rfl (Nat.le_of_ble_eq_true rfl) dX8_spared_1 ⟨Nat.le_of_ble_eq_true rfl, Nat.le_of_ble_eq_true rfl⟩) (fun hz3 => ?_)
  refine lv_if_eq (tgt := 16) hx hb dX8_spared_4 (by decide) (fun c4 => ?_) (fun c4 => ?_)
  · have h := itp c4 h
    refine lv_bipush (v := -2) hx hb dX8_spared_16 (by decide) ?_
    exact hrt (fun _ => 0) _ _ ((-2)) t_row t_wide t_lost t_strain t_det _ _ dX8_spared_18 h (hP.sub [0, 1, 2, 3] rfl) (hD.sub [0, 1, 2, 3] (by decide) rfl) hS
  · have h := itn c4 h
    refine lv_iload_n hx hb dX8_spared_7 rfl (lv_at hl 1 rfl) ?_
    refine lv_iload_n hx hb dX8_spared_8 rfl (lv_at hl 2 rfl) ?_
    refine lv_iload_n hx hb dX8_spared_9 rfl (lv_at hl 3 rfl) ?_
    refine ro_z (runS (As := [.int v1, .int v2, .int v3]) (rest := []) cx hl.1 (ctX8_areLoads l g v1 v2 v3 (fX8_areLoads v1 v2 v3) rfl) kmX8_areLoads ksX8_areLoads lm_X8_272 ⟨rfl, rfl⟩ ⟨Nat.le_of_ble_eq_true rfl, Nat.le_of_ble_eq_true rfl⟩ (roS hG (hP.sub [] rfl)) rfl rfl (Nat.le_of_ble_eq_true rfl) dX8_spared_10 ⟨Nat.le_of_ble_eq_true rfl, Nat.le_of_ble_eq_true rfl⟩) (fun hz5 => ?_)
    refine lv_if_ne (tgt := 19) hx hb dX8_spared_13 (by decide) (fun c6 => ?_) (fun c6 => ?_)
    · have h := itn c6 h
      refine lv_aload_n hx hb dX8_spared_19 rfl (lv_at hl 0 rfl) ?_
      obtain ⟨w8, w9, w10, hr7, h⟩ := ob3_out h
      refine rw_v (WN := fun u11 => [((a_t 23), .inl (g.2.2.1 1, 3, .inr (.inl t_strain))), ((a_t 0), .inr (7, [.ref (a_t 1), .ref (a_t 2), .int t_acted, .ref (a_t 4), .ref (a_t 5), .ref (a_t 6), .ref (a_t 7), .ref (a_t 8), .ref (a_t 9), .int t_taped, .int t_faultKind, .int t_faultPlace, .int t_at, .int t_begin, .int t_token, .int t_value, .int t_bad, .ref (a_t 18), .ref (a_t 19), .ref (a_t 20), .int w9, .int w10, .ref (a_t 23), .long t_det, .ref (a_t 25), .int t_mask, .int t_mode, .int t_wanted, .int t_orders, .int t_foundAt, .long t_foundBy, .ref (a_t 32), .ref (a_t 33), .int t_unlikes, .ref (a_t 35), .ref (a_t 36)])), ((a_t 1), .inl (g.2.2.1 0, 27, .inl t_mem)), ((a_t 20), .inl (g.2.2.1 0, 8, .inl w8))]) (wr := [((a_t 23), .inl (g.2.2.1 1, 3, .inr (.inl t_strain)))]) (runV (As := []) (rest := []) cx hl.1 (ctX8_laysPlate l g s.heap.size a_t t_acted t_taped t_faultKind t_faultPlace t_at t_begin t_token t_value t_bad t_wide t_lost t_det t_mask t_mode t_wanted t_orders t_foundAt t_foundBy t_unlikes t_mem t_row w8 w9 w10 hr7) kmX8_laysPlate kvX8_laysPlate lm_X8_243 ⟨rfl, rfl⟩ ⟨Nat.le_of_ble_eq_true rfl, Nat.le_of_ble_eq_true rfl⟩ (rwV (q0 := 0) (ci := 7) hG (hP.sub [0, 1, 2] rfl) (hD.sub [0, 1, 2] (by decide) rfl) hAb hb0 hS hP rfl rfl) rfl rfl (Nat.le_of_ble_eq_true rfl) dX8_spared_20 ⟨Nat.le_of_ble_eq_true rfl, Nat.le_of_ble_eq_true rfl⟩) hP hD hS hA [0, 1, 2] [3] rfl rfl (by decide) (by decide) (fun _ => rfl) (fun u11 H locs hP hD hS => ?_)
      have hG := hGk hS
      refine lv_iconst (v := 0) hx hb dX8_spared_23 (by decide) ?_
      refine lv_istore (lv' := [(4, .int (0)), (0, .ref ((a_t 0))), (1, .int v1), (2, .int v2), (3, .int v3)]) hx hb dX8_spared_24 hl (by decide) rfl (fun ls hl => ?_)
      refine lv_iconst (v := 0) hx hb dX8_spared_26 (by decide) ?_
      refine lv_istore (lv' := [(5, .int (0)), (4, .int (0)), (0, .ref ((a_t 0))), (1, .int v1), (2, .int v2), (3, .int v3)]) hx hb dX8_spared_27 hl (by decide) rfl (fun ls hl => ?_)
      exact w29 FU w8 w9 w10 t_strain t_det v1 v2 v3 0 0 _ _ (hP.sub [1, 2, 3, 0] rfl) (hD.sub [1, 2, 3, 0] (by decide) rfl) hS _ (lv_sub hl [2, 3, 4, 5, 1, 0] rfl) h
    · have h := itp c6 h
      refine lv_bipush (v := -2) hx hb dX8_spared_16 (by decide) ?_
      exact hrt (fun _ => 0) _ _ ((-2)) t_row t_wide t_lost t_strain t_det _ _ dX8_spared_18 h (hP.sub [0, 1, 2, 3] rfl) (hD.sub [0, 1, 2, 3] (by decide) rfl) hS
-- X8_weakest
theorem dX8_weakest_0 : decode cX8_weakest 0 = .ok (.aload_n 0, 1) := by decide +kernel
theorem dX8_weakest_1 : decode cX8_weakest 1 = .ok (.invokevirtual 243, 3) := by decide +kernel
theorem dX8_weakest_4 : decode cX8_weakest 4 = .ok (.iconst 1, 1) := by decide +kernel
theorem dX8_weakest_5 : decode cX8_weakest 5 = .ok (.aload_n 0, 1) := by decide +kernel
theorem dX8_weakest_6 : decode cX8_weakest 6 = .ok (.getfield 206, 3) := by decide +kernel
theorem dX8_weakest_9 : decode cX8_weakest 9 = .ok (.ishl, 1) := by decide +kernel
theorem dX8_weakest_10 : decode cX8_weakest 10 = .ok (.iconst 1, 1) := by decide +kernel
theorem dX8_weakest_11 : decode cX8_weakest 11 = .ok (.isub, 1) := by decide +kernel
theorem dX8_weakest_12 : decode cX8_weakest 12 = .ok (.istore 4, 2) := by decide +kernel
theorem dX8_weakest_14 : decode cX8_weakest 14 = .ok (.iconst 1, 1) := by decide +kernel
theorem dX8_weakest_15 : decode cX8_weakest 15 = .ok (.aload_n 0, 1) := by decide +kernel
theorem dX8_weakest_16 : decode cX8_weakest 16 = .ok (.getfield 206, 3) := by decide +kernel
theorem dX8_weakest_19 : decode cX8_weakest 19 = .ok (.ishl, 1) := by decide +kernel
theorem dX8_weakest_20 : decode cX8_weakest 20 = .ok (.iconst 1, 1) := by decide +kernel
theorem dX8_weakest_21 : decode cX8_weakest 21 = .ok (.isub, 1) := by decide +kernel
theorem dX8_weakest_22 : decode cX8_weakest 22 = .ok (.istore 5, 2) := by decide +kernel
theorem dX8_weakest_24 : decode cX8_weakest 24 = .ok (.iload 5, 2) := by decide +kernel
theorem dX8_weakest_26 : decode cX8_weakest 26 = .ok (.ifCond .lt 45, 3) := by decide +kernel
theorem dX8_weakest_29 : decode cX8_weakest 29 = .ok (.aload_n 0, 1) := by decide +kernel
theorem dX8_weakest_30 : decode cX8_weakest 30 = .ok (.iload 5, 2) := by decide +kernel
theorem dX8_weakest_32 : decode cX8_weakest 32 = .ok (.putfield 209, 3) := by decide +kernel
theorem dX8_weakest_35 : decode cX8_weakest 35 = .ok (.iload 5, 2) := by decide +kernel
theorem dX8_weakest_37 : decode cX8_weakest 37 = .ok (.invokestatic 303, 3) := by decide +kernel
theorem dX8_weakest_40 : decode cX8_weakest 40 = .ok (.iload 4, 2) := by decide +kernel
theorem dX8_weakest_42 : decode cX8_weakest 42 = .ok (.invokestatic 303, 3) := by decide +kernel
theorem dX8_weakest_45 : decode cX8_weakest 45 = .ok (.if_icmp .gt 20, 3) := by decide +kernel
theorem dX8_weakest_48 : decode cX8_weakest 48 = .ok (.aload_n 0, 1) := by decide +kernel
theorem dX8_weakest_49 : decode cX8_weakest 49 = .ok (.iload_n 1, 1) := by decide +kernel
theorem dX8_weakest_50 : decode cX8_weakest 50 = .ok (.i2l, 1) := by decide +kernel
theorem dX8_weakest_51 : decode cX8_weakest 51 = .ok (.iload_n 2, 1) := by decide +kernel
theorem dX8_weakest_52 : decode cX8_weakest 52 = .ok (.i2l, 1) := by decide +kernel
theorem dX8_weakest_53 : decode cX8_weakest 53 = .ok (.iload_n 3, 1) := by decide +kernel
theorem dX8_weakest_54 : decode cX8_weakest 54 = .ok (.i2l, 1) := by decide +kernel
theorem dX8_weakest_55 : decode cX8_weakest 55 = .ok (.invokevirtual 300, 3) := by decide +kernel
theorem dX8_weakest_58 : decode cX8_weakest 58 = .ok (.ifCond .ne 7, 3) := by decide +kernel
theorem dX8_weakest_61 : decode cX8_weakest 61 = .ok (.iload 5, 2) := by decide +kernel
theorem dX8_weakest_63 : decode cX8_weakest 63 = .ok (.istore 4, 2) := by decide +kernel
theorem dX8_weakest_65 : decode cX8_weakest 65 = .ok (.iinc 5 (-1), 3) := by decide +kernel
theorem dX8_weakest_68 : decode cX8_weakest 68 = .ok (.goto (-44), 3) := by decide +kernel
theorem dX8_weakest_71 : decode cX8_weakest 71 = .ok (.iload 4, 2) := by decide +kernel
theorem dX8_weakest_73 : decode cX8_weakest 73 = .ok (.ireturn, 1) := by decide +kernel
noncomputable def fX8_weakest_65 (k24 : (Nat → Int32) → (Nat → Int32) → Int32 → Int32 → (Nat → Int64) → Int64 → Int32 → Int32 → Int32 → Int32 → Int32 → Option (Int32 × (Nat → Int32) × Int32 × Int32 × (Nat → Int64) × Int64)) (t_mem : Nat → Int32) (t_row : Nat → Int32) (t_wide : Int32) (t_lost : Int32) (t_strain : Nat → Int64) (t_det : Int64) (v1 : Int32) (v2 : Int32) (v3 : Int32) (v4 : Int32) (v5 : Int32) : Option (Int32 × (Nat → Int32) × Int32 × Int32 × (Nat → Int64) × Int64) := k24 t_mem t_row t_wide t_lost t_strain t_det v1 v2 v3 v4 (v5 + (-1))
noncomputable def fX8_weakest_24  : Nat → (Nat → Int32) → (Nat → Int32) → Int32 → Int32 → (Nat → Int64) → Int64 → Int32 → Int32 → Int32 → Int32 → Int32 → Option (Int32 × (Nat → Int32) × Int32 × Int32 × (Nat → Int64) × Int64)
  | 0, _, _, _, _, _, _, _, _, _, _, _ => none
  | n + 1, t_mem, t_row, t_wide, t_lost, t_strain, t_det, v1, v2, v3, v4, v5 => (if v5 < 0 then some (v4, t_row, t_wide, t_lost, t_strain, t_det) else (if (fJ6_bitCount_0f7a4 v4) < (fJ6_bitCount_0f7a4 v5) then fX8_weakest_65 (fX8_weakest_24 n) t_mem t_row t_wide v5 t_strain t_det v1 v2 v3 v4 v5 else ob3 (fX8_isWithin t_mem t_row t_wide v5 t_strain t_det v1.toInt64 v2.toInt64 v3.toInt64) fun r9 w10 w11 => (if r9 = 0 then fX8_weakest_65 (fX8_weakest_24 n) t_mem t_row t_wide v5 w10 w11 v1 v2 v3 v5 v5 else fX8_weakest_65 (fX8_weakest_24 n) t_mem t_row t_wide v5 w10 w11 v1 v2 v3 v4 v5)))
theorem fX8_weakest_24_z  (t_mem : Nat → Int32) (t_row : Nat → Int32) (t_wide : Int32) (t_lost : Int32) (t_strain : Nat → Int64) (t_det : Int64) (v1 : Int32) (v2 : Int32) (v3 : Int32) (v4 : Int32) (v5 : Int32) : fX8_weakest_24  0 t_mem t_row t_wide t_lost t_strain t_det v1 v2 v3 v4 v5 = none := rfl
theorem fX8_weakest_24_s  (n : Nat) (t_mem : Nat → Int32) (t_row : Nat → Int32) (t_wide : Int32) (t_lost : Int32) (t_strain : Nat → Int64) (t_det : Int64) (v1 : Int32) (v2 : Int32) (v3 : Int32) (v4 : Int32) (v5 : Int32) : fX8_weakest_24  (n + 1) t_mem t_row t_wide t_lost t_strain t_det v1 v2 v3 v4 v5 = (if v5 < 0 then some (v4, t_row, t_wide, t_lost, t_strain, t_det) else (if (fJ6_bitCount_0f7a4 v4) < (fJ6_bitCount_0f7a4 v5) then fX8_weakest_65 (fX8_weakest_24 n) t_mem t_row t_wide v5 t_strain t_det v1 v2 v3 v4 v5 else ob3 (fX8_isWithin t_mem t_row t_wide v5 t_strain t_det v1.toInt64 v2.toInt64 v3.toInt64) fun r9 w10 w11 => (if r9 = 0 then fX8_weakest_65 (fX8_weakest_24 n) t_mem t_row t_wide v5 w10 w11 v1 v2 v3 v5 v5 else fX8_weakest_65 (fX8_weakest_24 n) t_mem t_row t_wide v5 w10 w11 v1 v2 v3 v4 v5))) := rfl
noncomputable def fX8_weakest  (t_mem : Nat → Int32) (t_row : Nat → Int32) (t_wide : Int32) (t_lost : Int32) (t_strain : Nat → Int64) (t_det : Int64) (v1 : Int32) (v2 : Int32) (v3 : Int32) : Option (Int32 × (Nat → Int32) × Int32 × Int32 × (Nat → Int64) × Int64) := ob3 (fX8_laysPlate t_mem t_row t_wide t_lost) fun w2 w3 w4 => fX8_weakest_24 FU t_mem w2 w3 w4 t_strain t_det v1 v2 v3 ((1 <<< (w3 &&& 31)) - 1) ((1 <<< (w3 &&& 31)) - 1)
set_option maxHeartbeats 4000000 in
set_option maxRecDepth 100000 in
theorem ctX8_weakest (l : Launch) (g : GT) (sz : Nat) (a_t : Nat → Nat) (t_acted : Int32) (t_taped : Int32) (t_faultKind : Int32) (t_faultPlace : Int32) (t_at : Int32) (t_begin : Int32) (t_token : Int32) (t_value : Int32) (t_bad : Int32) (t_wide : Int32) (t_lost : Int32) (t_det : Int64) (t_mask : Int32) (t_mode : Int32) (t_wanted : Int32) (t_orders : Int32) (t_foundAt : Int32) (t_foundBy : Int64) (t_unlikes : Int32) (t_mem : Nat → Int32) (t_row : Nat → Int32) (t_strain : Nat → Int64) (v1 : Int32) (v2 : Int32) (v3 : Int32) (o : Int32) (o_t_row : Nat → Int32) (o_t_wide : Int32) (o_t_lost : Int32) (o_t_strain : Nat → Int64) (o_t_det : Int64) (h : fX8_weakest t_mem t_row t_wide t_lost t_strain t_det v1 v2 v3 = some (o, o_t_row, o_t_wide, o_t_lost, o_t_strain, o_t_det)) : Met l yX8_weakest (Cond.code yX8_weakest cX8_weakest 6 (some .int) :: Tw) ⟨6, 0, 0, 161⟩ (va_Pc [.ref ((a_t 0)), .int v1, .int v2, .int v3] (rwB g [((a_t 0), .inr (7, [.ref (a_t 1), .ref (a_t 2), .int t_acted, .ref (a_t 4), .ref (a_t 5), .ref (a_t 6), .ref (a_t 7), .ref (a_t 8), .ref (a_t 9), .int t_taped, .int t_faultKind, .int t_faultPlace, .int t_at, .int t_begin, .int t_token, .int t_value, .int t_bad, .ref (a_t 18), .ref (a_t 19), .ref (a_t 20), .int t_wide, .int t_lost, .ref (a_t 23), .long t_det, .ref (a_t 25), .int t_mask, .int t_mode, .int t_wanted, .int t_orders, .int t_foundAt, .long t_foundBy, .ref (a_t 32), .ref (a_t 33), .int t_unlikes, .ref (a_t 35), .ref (a_t 36)])), ((a_t 1), .inl (g.2.2.1 0, 27, .inl t_mem)), ((a_t 20), .inl (g.2.2.1 0, 8, .inl t_row)), ((a_t 23), .inl (g.2.2.1 1, 3, .inr (.inl t_strain)))] sz)) (va_Qi (fun x (_ : Nat → Nat) => x = o) (fun u => rwE g (va_A [((a_t 0), .inr (7, [.ref (a_t 1), .ref (a_t 2), .int t_acted, .ref (a_t 4), .ref (a_t 5), .ref (a_t 6), .ref (a_t 7), .ref (a_t 8), .ref (a_t 9), .int t_taped, .int t_faultKind, .int t_faultPlace, .int t_at, .int t_begin, .int t_token, .int t_value, .int t_bad, .ref (a_t 18), .ref (a_t 19), .ref (a_t 20), .int t_wide, .int t_lost, .ref (a_t 23), .long t_det, .ref (a_t 25), .int t_mask, .int t_mode, .int t_wanted, .int t_orders, .int t_foundAt, .long t_foundBy, .ref (a_t 32), .ref (a_t 33), .int t_unlikes, .ref (a_t 35), .ref (a_t 36)])), ((a_t 1), .inl (g.2.2.1 0, 27, .inl t_mem)), ((a_t 20), .inl (g.2.2.1 0, 8, .inl t_row)), ((a_t 23), .inl (g.2.2.1 1, 3, .inr (.inl t_strain)))] sz) [((a_t 0), .inr (7, [.ref (a_t 1), .ref (a_t 2), .int t_acted, .ref (a_t 4), .ref (a_t 5), .ref (a_t 6), .ref (a_t 7), .ref (a_t 8), .ref (a_t 9), .int t_taped, .int t_faultKind, .int t_faultPlace, .int t_at, .int t_begin, .int t_token, .int t_value, .int t_bad, .ref (a_t 18), .ref (a_t 19), .ref (a_t 20), .int o_t_wide, .int o_t_lost, .ref (a_t 23), .long o_t_det, .ref (a_t 25), .int t_mask, .int t_mode, .int t_wanted, .int t_orders, .int t_foundAt, .long t_foundBy, .ref (a_t 32), .ref (a_t 33), .int t_unlikes, .ref (a_t 35), .ref (a_t 36)])), ((a_t 1), .inl (g.2.2.1 0, 27, .inl t_mem)), ((a_t 20), .inl (g.2.2.1 0, 8, .inl o_t_row)), ((a_t 23), .inl (g.2.2.1 1, 3, .inr (.inl o_t_strain)))]) (va_A [((a_t 0), .inr (7, [.ref (a_t 1), .ref (a_t 2), .int t_acted, .ref (a_t 4), .ref (a_t 5), .ref (a_t 6), .ref (a_t 7), .ref (a_t 8), .ref (a_t 9), .int t_taped, .int t_faultKind, .int t_faultPlace, .int t_at, .int t_begin, .int t_token, .int t_value, .int t_bad, .ref (a_t 18), .ref (a_t 19), .ref (a_t 20), .int t_wide, .int t_lost, .ref (a_t 23), .long t_det, .ref (a_t 25), .int t_mask, .int t_mode, .int t_wanted, .int t_orders, .int t_foundAt, .long t_foundBy, .ref (a_t 32), .ref (a_t 33), .int t_unlikes, .ref (a_t 35), .ref (a_t 36)])), ((a_t 1), .inl (g.2.2.1 0, 27, .inl t_mem)), ((a_t 20), .inl (g.2.2.1 0, 8, .inl t_row)), ((a_t 23), .inl (g.2.2.1 1, 3, .inr (.inl t_strain)))] sz)) 0 0 (va_A [((a_t 0), .inr (7, [.ref (a_t 1), .ref (a_t 2), .int t_acted, .ref (a_t 4), .ref (a_t 5), .ref (a_t 6), .ref (a_t 7), .ref (a_t 8), .ref (a_t 9), .int t_taped, .int t_faultKind, .int t_faultPlace, .int t_at, .int t_begin, .int t_token, .int t_value, .int t_bad, .ref (a_t 18), .ref (a_t 19), .ref (a_t 20), .int t_wide, .int t_lost, .ref (a_t 23), .long t_det, .ref (a_t 25), .int t_mask, .int t_mode, .int t_wanted, .int t_orders, .int t_foundAt, .long t_foundBy, .ref (a_t 32), .ref (a_t 33), .int t_unlikes, .ref (a_t 35), .ref (a_t 36)])), ((a_t 1), .inl (g.2.2.1 0, 27, .inl t_mem)), ((a_t 20), .inl (g.2.2.1 0, 8, .inl t_row)), ((a_t 23), .inl (g.2.2.1 1, 3, .inr (.inl t_strain)))] sz) := by
  refine rw_meti (by decide) (Nat.le_of_ble_eq_true rfl) (lv0 := [(0, .ref ((a_t 0))), (1, .int v1), (2, .int v2), (3, .int v3)]) rfl ?_
  intro p e s m args below meth c ls Q A cx hret hG hAb hb0 hA hP hD hl
  have hx := cx.1
  have hb := cx.2.1
  have hG0 := hG
  have hGk : ∀ {H : Heap} {locs : List Loc}, va_S A s.heap H locs → GE g s H := fun hS => hG0.keptS hAb hS
  have hSb : ∀ {H : Heap} {locs : List Loc}, va_S A s.heap H locs → va_S (fun a => g.1 ≤ a) s.heap H locs := fun hS => ⟨hS.1, fun q h1 h2 => hS.2.1 q h1 (fun z => h2 (hAb q z)), fun l hl => hAb _ (hS.2.2 l hl)⟩
  have hS : va_S A s.heap s.heap [] := va_S.rf
  have hrt : ∀ (u : Nat → Nat) (pc : Nat) (ls : Array Slot) (v : Int32) (x_t_row : Nat → Int32) (x_t_wide : Int32) (x_t_lost : Int32) (x_t_strain : Nat → Int64) (x_t_det : Int64) (H : Heap) (locs : List Loc), decode cX8_weakest pc = .ok (.ireturn, 1) → some (v, x_t_row, x_t_wide, x_t_lost, x_t_strain, x_t_det) = some (o, o_t_row, o_t_wide, o_t_lost, o_t_strain, o_t_det) → va_P g.2.1 vwCl [((a_t 0), .inr (7, [.ref (a_t 1), .ref (a_t 2), .int t_acted, .ref (a_t 4), .ref (a_t 5), .ref (a_t 6), .ref (a_t 7), .ref (a_t 8), .ref (a_t 9), .int t_taped, .int t_faultKind, .int t_faultPlace, .int t_at, .int t_begin, .int t_token, .int t_value, .int t_bad, .ref (a_t 18), .ref (a_t 19), .ref (a_t 20), .int x_t_wide, .int x_t_lost, .ref (a_t 23), .long x_t_det, .ref (a_t 25), .int t_mask, .int t_mode, .int t_wanted, .int t_orders, .int t_foundAt, .long t_foundBy, .ref (a_t 32), .ref (a_t 33), .int t_unlikes, .ref (a_t 35), .ref (a_t 36)])), ((a_t 1), .inl (g.2.2.1 0, 27, .inl t_mem)), ((a_t 20), .inl (g.2.2.1 0, 8, .inl x_t_row)), ((a_t 23), .inl (g.2.2.1 1, 3, .inr (.inl x_t_strain)))] H → va_D A [((a_t 0), .inr (7, [.ref (a_t 1), .ref (a_t 2), .int t_acted, .ref (a_t 4), .ref (a_t 5), .ref (a_t 6), .ref (a_t 7), .ref (a_t 8), .ref (a_t 9), .int t_taped, .int t_faultKind, .int t_faultPlace, .int t_at, .int t_begin, .int t_token, .int t_value, .int t_bad, .ref (a_t 18), .ref (a_t 19), .ref (a_t 20), .int x_t_wide, .int x_t_lost, .ref (a_t 23), .long x_t_det, .ref (a_t 25), .int t_mask, .int t_mode, .int t_wanted, .int t_orders, .int t_foundAt, .long t_foundBy, .ref (a_t 32), .ref (a_t 33), .int t_unlikes, .ref (a_t 35), .ref (a_t 36)])), ((a_t 1), .inl (g.2.2.1 0, 27, .inl t_mem)), ((a_t 20), .inl (g.2.2.1 0, 8, .inl x_t_row)), ((a_t 23), .inl (g.2.2.1 1, 3, .inr (.inl x_t_strain)))] → va_S A s.heap H locs → W p l e ⟨6, 0, 0, 161⟩ s m args below meth c H locs 0 0 Q (F0 m pc ls [.int v]) := by
    intro u pc ls v x_t_row x_t_wide x_t_lost x_t_strain x_t_det H locs hd h hP hD hS
    cases h
    exact hret u _ _ _ _ _ hd rfl hP hD hS
  have w65 : ∀ (k24 : (Nat → Int32) → (Nat → Int32) → Int32 → Int32 → (Nat → Int64) → Int64 → Int32 → Int32 → Int32 → Int32 → Int32 → Option (Int32 × (Nat → Int32) × Int32 × Int32 × (Nat → Int64) × Int64)) (hk24 : ∀ (t_row : Nat → Int32) (t_wide : Int32) (t_lost : Int32) (t_strain : Nat → Int64) (t_det : Int64) (v1 : Int32) (v2 : Int32) (v3 : Int32) (v4 : Int32) (v5 : Int32) (H : Heap) (locs : List Loc), va_P g.2.1 vwCl [((a_t 0), .inr (7, [.ref (a_t 1), .ref (a_t 2), .int t_acted, .ref (a_t 4), .ref (a_t 5), .ref (a_t 6), .ref (a_t 7), .ref (a_t 8), .ref (a_t 9), .int t_taped, .int t_faultKind, .int t_faultPlace, .int t_at, .int t_begin, .int t_token, .int t_value, .int t_bad, .ref (a_t 18), .ref (a_t 19), .ref (a_t 20), .int t_wide, .int t_lost, .ref (a_t 23), .long t_det, .ref (a_t 25), .int t_mask, .int t_mode, .int t_wanted, .int t_orders, .int t_foundAt, .long t_foundBy, .ref (a_t 32), .ref (a_t 33), .int t_unlikes, .ref (a_t 35), .ref (a_t 36)])), ((a_t 1), .inl (g.2.2.1 0, 27, .inl t_mem)), ((a_t 20), .inl (g.2.2.1 0, 8, .inl t_row)), ((a_t 23), .inl (g.2.2.1 1, 3, .inr (.inl t_strain)))] H → va_D A [((a_t 0), .inr (7, [.ref (a_t 1), .ref (a_t 2), .int t_acted, .ref (a_t 4), .ref (a_t 5), .ref (a_t 6), .ref (a_t 7), .ref (a_t 8), .ref (a_t 9), .int t_taped, .int t_faultKind, .int t_faultPlace, .int t_at, .int t_begin, .int t_token, .int t_value, .int t_bad, .ref (a_t 18), .ref (a_t 19), .ref (a_t 20), .int t_wide, .int t_lost, .ref (a_t 23), .long t_det, .ref (a_t 25), .int t_mask, .int t_mode, .int t_wanted, .int t_orders, .int t_foundAt, .long t_foundBy, .ref (a_t 32), .ref (a_t 33), .int t_unlikes, .ref (a_t 35), .ref (a_t 36)])), ((a_t 1), .inl (g.2.2.1 0, 27, .inl t_mem)), ((a_t 20), .inl (g.2.2.1 0, 8, .inl t_row)), ((a_t 23), .inl (g.2.2.1 1, 3, .inr (.inl t_strain)))] → va_S A s.heap H locs → ∀ (ls : Array Slot), lv_has ls 6 [(0, .ref ((a_t 0))), (1, .int v1), (2, .int v2), (3, .int v3), (4, .int v4), (5, .int v5)] → k24 t_mem t_row t_wide t_lost t_strain t_det v1 v2 v3 v4 v5 = some (o, o_t_row, o_t_wide, o_t_lost, o_t_strain, o_t_det) → W p l e ⟨6, 0, 0, 161⟩ s m args below meth c H locs 0 0 Q (F0 m 24 ls [])) (t_row : Nat → Int32) (t_wide : Int32) (t_lost : Int32) (t_strain : Nat → Int64) (t_det : Int64) (v1 : Int32) (v2 : Int32) (v3 : Int32) (v4 : Int32) (v5 : Int32) (H : Heap) (locs : List Loc), va_P g.2.1 vwCl [((a_t 0), .inr (7, [.ref (a_t 1), .ref (a_t 2), .int t_acted, .ref (a_t 4), .ref (a_t 5), .ref (a_t 6), .ref (a_t 7), .ref (a_t 8), .ref (a_t 9), .int t_taped, .int t_faultKind, .int t_faultPlace, .int t_at, .int t_begin, .int t_token, .int t_value, .int t_bad, .ref (a_t 18), .ref (a_t 19), .ref (a_t 20), .int t_wide, .int t_lost, .ref (a_t 23), .long t_det, .ref (a_t 25), .int t_mask, .int t_mode, .int t_wanted, .int t_orders, .int t_foundAt, .long t_foundBy, .ref (a_t 32), .ref (a_t 33), .int t_unlikes, .ref (a_t 35), .ref (a_t 36)])), ((a_t 1), .inl (g.2.2.1 0, 27, .inl t_mem)), ((a_t 20), .inl (g.2.2.1 0, 8, .inl t_row)), ((a_t 23), .inl (g.2.2.1 1, 3, .inr (.inl t_strain)))] H → va_D A [((a_t 0), .inr (7, [.ref (a_t 1), .ref (a_t 2), .int t_acted, .ref (a_t 4), .ref (a_t 5), .ref (a_t 6), .ref (a_t 7), .ref (a_t 8), .ref (a_t 9), .int t_taped, .int t_faultKind, .int t_faultPlace, .int t_at, .int t_begin, .int t_token, .int t_value, .int t_bad, .ref (a_t 18), .ref (a_t 19), .ref (a_t 20), .int t_wide, .int t_lost, .ref (a_t 23), .long t_det, .ref (a_t 25), .int t_mask, .int t_mode, .int t_wanted, .int t_orders, .int t_foundAt, .long t_foundBy, .ref (a_t 32), .ref (a_t 33), .int t_unlikes, .ref (a_t 35), .ref (a_t 36)])), ((a_t 1), .inl (g.2.2.1 0, 27, .inl t_mem)), ((a_t 20), .inl (g.2.2.1 0, 8, .inl t_row)), ((a_t 23), .inl (g.2.2.1 1, 3, .inr (.inl t_strain)))] → va_S A s.heap H locs → ∀ (ls : Array Slot), lv_has ls 6 [(0, .ref ((a_t 0))), (1, .int v1), (2, .int v2), (3, .int v3), (4, .int v4), (5, .int v5)] → fX8_weakest_65 k24 t_mem t_row t_wide t_lost t_strain t_det v1 v2 v3 v4 v5 = some (o, o_t_row, o_t_wide, o_t_lost, o_t_strain, o_t_det) → W p l e ⟨6, 0, 0, 161⟩ s m args below meth c H locs 0 0 Q (F0 m 65 ls []) := by
    intro k24 hk24 t_row t_wide t_lost t_strain t_det v1 v2 v3 v4 v5 H locs hP hD hS ls hl h
    unfold fX8_weakest_65 at h
    have hG := hGk hS
    refine lv_iinc (v := v5 + (-1)) (lv' := [(5, .int (v5 + (-1))), (0, .ref ((a_t 0))), (1, .int v1), (2, .int v2), (3, .int v3), (4, .int v4)]) hx hb dX8_weakest_65 hl (k := 5) rfl rfl (by decide) rfl (fun ls hl => ?_)
    refine lv_goto (tgt := 24) hx hb dX8_weakest_68 (by decide) ?_
    exact hk24 t_row t_wide t_lost t_strain t_det v1 v2 v3 v4 (v5 + (-1)) _ _ hP hD hS _ (lv_sub hl [1, 2, 3, 4, 5, 0] rfl) h
  have w24 : ∀ (n : Nat) (t_row : Nat → Int32) (t_wide : Int32) (t_lost : Int32) (t_strain : Nat → Int64) (t_det : Int64) (v1 : Int32) (v2 : Int32) (v3 : Int32) (v4 : Int32) (v5 : Int32) (H : Heap) (locs : List Loc), va_P g.2.1 vwCl [((a_t 0), .inr (7, [.ref (a_t 1), .ref (a_t 2), .int t_acted, .ref (a_t 4), .ref (a_t 5), .ref (a_t 6), .ref (a_t 7), .ref (a_t 8), .ref (a_t 9), .int t_taped, .int t_faultKind, .int t_faultPlace, .int t_at, .int t_begin, .int t_token, .int t_value, .int t_bad, .ref (a_t 18), .ref (a_t 19), .ref (a_t 20), .int t_wide, .int t_lost, .ref (a_t 23), .long t_det, .ref (a_t 25), .int t_mask, .int t_mode, .int t_wanted, .int t_orders, .int t_foundAt, .long t_foundBy, .ref (a_t 32), .ref (a_t 33), .int t_unlikes, .ref (a_t 35), .ref (a_t 36)])), ((a_t 1), .inl (g.2.2.1 0, 27, .inl t_mem)), ((a_t 20), .inl (g.2.2.1 0, 8, .inl t_row)), ((a_t 23), .inl (g.2.2.1 1, 3, .inr (.inl t_strain)))] H → va_D A [((a_t 0), .inr (7, [.ref (a_t 1), .ref (a_t 2), .int t_acted, .ref (a_t 4), .ref (a_t 5), .ref (a_t 6), .ref (a_t 7), .ref (a_t 8), .ref (a_t 9), .int t_taped, .int t_faultKind, .int t_faultPlace, .int t_at, .int t_begin, .int t_token, .int t_value, .int t_bad, .ref (a_t 18), .ref (a_t 19), .ref (a_t 20), .int t_wide, .int t_lost, .ref (a_t 23), .long t_det, .ref (a_t 25), .int t_mask, .int t_mode, .int t_wanted, .int t_orders, .int t_foundAt, .long t_foundBy, .ref (a_t 32), .ref (a_t 33), .int t_unlikes, .ref (a_t 35), .ref (a_t 36)])), ((a_t 1), .inl (g.2.2.1 0, 27, .inl t_mem)), ((a_t 20), .inl (g.2.2.1 0, 8, .inl t_row)), ((a_t 23), .inl (g.2.2.1 1, 3, .inr (.inl t_strain)))] → va_S A s.heap H locs → ∀ (ls : Array Slot), lv_has ls 6 [(0, .ref ((a_t 0))), (1, .int v1), (2, .int v2), (3, .int v3), (4, .int v4), (5, .int v5)] → fX8_weakest_24  n t_mem t_row t_wide t_lost t_strain t_det v1 v2 v3 v4 v5 = some (o, o_t_row, o_t_wide, o_t_lost, o_t_strain, o_t_det) → W p l e ⟨6, 0, 0, 161⟩ s m args below meth c H locs 0 0 Q (F0 m 24 ls []) := by
    intro n
    induction n with
    | zero => intro t_row t_wide t_lost t_strain t_det v1 v2 v3 v4 v5 H locs hP hD hS ls hl h; cases (fX8_weakest_24_z  t_mem t_row t_wide t_lost t_strain t_det v1 v2 v3 v4 v5).symm.trans h
    | succ n ih =>
    intro t_row t_wide t_lost t_strain t_det v1 v2 v3 v4 v5 H locs hP hD hS ls hl h
    have h := (fX8_weakest_24_s  n t_mem t_row t_wide t_lost t_strain t_det v1 v2 v3 v4 v5).symm.trans h
    have hG := hGk hS
    refine lv_iload hx hb dX8_weakest_24 (lv_at hl 5 rfl) ?_
    refine lv_if_lt (tgt := 71) hx hb dX8_weakest_26 (by decide) (fun c6 => ?_) (fun c6 => ?_)
    · have h := itp c6 h
      refine lv_iload hx hb dX8_weakest_71 (lv_at hl 4 rfl) ?_
      exact hrt (fun _ => 0) _ _ v4 t_row t_wide t_lost t_strain t_det _ _ dX8_weakest_73 h (hP.sub [0, 1, 2, 3] rfl) (hD.sub [0, 1, 2, 3] (by decide) rfl) hS
    · have h := itn c6 h
      refine lv_aload_n hx hb dX8_weakest_29 rfl (lv_at hl 0 rfl) ?_
      refine lv_iload hx hb dX8_weakest_30 (lv_at hl 5 rfl) ?_
      refine xw_put (C := RX8) (T := TX8) (N := 36) (ty := .int) (v := .int v5) (ws' := [((a_t 0), .inr (7, [.ref (a_t 1), .ref (a_t 2), .int t_acted, .ref (a_t 4), .ref (a_t 5), .ref (a_t 6), .ref (a_t 7), .ref (a_t 8), .ref (a_t 9), .int t_taped, .int t_faultKind, .int t_faultPlace, .int t_at, .int t_begin, .int t_token, .int t_value, .int t_bad, .ref (a_t 18), .ref (a_t 19), .ref (a_t 20), .int t_wide, .int v5, .ref (a_t 23), .long t_det, .ref (a_t 25), .int t_mask, .int t_mode, .int t_wanted, .int t_orders, .int t_foundAt, .long t_foundBy, .ref (a_t 32), .ref (a_t 33), .int t_unlikes, .ref (a_t 35), .ref (a_t 36)])), ((a_t 1), .inl (g.2.2.1 0, 27, .inl t_mem)), ((a_t 20), .inl (g.2.2.1 0, 8, .inl t_row)), ((a_t 23), .inl (g.2.2.1 1, 3, .inr (.inl t_strain)))]) cx hG hP hD hS 0 rfl rfl uX8 tyX8 tyX8_ok nmX8 21 (by decide) lf_X8_209 rfl (by decide +kernel) rfl rfl (Nat.le_of_ble_eq_true rfl) rfl dX8_weakest_32 (fun H locs hP hD hS => ?_)
      have hG := hGk hS
      refine lv_iload hx hb dX8_weakest_35 (lv_at hl 5 rfl) ?_
      refine ro_i (runS (As := [.int v5]) (rest := []) cx hl.1 (ctJ6_bitCount_0f7a4 l g v5 (fJ6_bitCount_0f7a4 v5) rfl) kmJ6_bitCount_0f7a4 ksJ6_bitCount_0f7a4 lm_X8_303 ⟨rfl, rfl⟩ ⟨Nat.le_of_ble_eq_true rfl, Nat.le_of_ble_eq_true rfl⟩ (roS hG (hP.sub [] rfl)) rfl rfl (Nat.le_of_ble_eq_true rfl) dX8_weakest_37 ⟨Nat.le_of_ble_eq_true rfl, Nat.le_of_ble_eq_true rfl⟩) ?_
      refine lv_iload hx hb dX8_weakest_40 (lv_at hl 4 rfl) ?_
      refine ro_i (runS (As := [.int v4]) (rest := [.int (fJ6_bitCount_0f7a4 v5)]) cx hl.1 (ctJ6_bitCount_0f7a4 l g v4 (fJ6_bitCount_0f7a4 v4) rfl) kmJ6_bitCount_0f7a4 ksJ6_bitCount_0f7a4 lm_X8_303 ⟨rfl, rfl⟩ ⟨Nat.le_of_ble_eq_true rfl, Nat.le_of_ble_eq_true rfl⟩ (roS hG (hP.sub [] rfl)) rfl rfl (Nat.le_of_ble_eq_true rfl) dX8_weakest_42 ⟨Nat.le_of_ble_eq_true rfl, Nat.le_of_ble_eq_true rfl⟩) ?_
      refine lv_icmp_gt (tgt := 65) hx hb dX8_weakest_45 (by decide) (fun c7 => ?_) (fun c7 => ?_)
      · have h := itp c7 h
        exact w65 _ ih t_row t_wide v5 t_strain t_det v1 v2 v3 v4 v5 _ _ hP hD hS _ (lv_sub hl [0, 1, 2, 3, 4, 5] rfl) h
      · have h := itn c7 h
        refine lv_aload_n hx hb dX8_weakest_48 rfl (lv_at hl 0 rfl) ?_
        refine lv_iload_n hx hb dX8_weakest_49 rfl (lv_at hl 1 rfl) ?_
        refine lv_i2l (v := v1.toInt64) hx hb dX8_weakest_50 rfl ?_
        refine lv_iload_n hx hb dX8_weakest_51 rfl (lv_at hl 2 rfl) ?_
        refine lv_i2l (v := v2.toInt64) hx hb dX8_weakest_52 rfl ?_
        refine lv_iload_n hx hb dX8_weakest_53 rfl (lv_at hl 3 rfl) ?_
        refine lv_i2l (v := v3.toInt64) hx hb dX8_weakest_54 rfl ?_
        obtain ⟨r9, w10, w11, hr8, h⟩ := ob3_out h
        refine rw_z (WN := fun u12 => [((a_t 0), .inr (7, [.ref (a_t 1), .ref (a_t 2), .int t_acted, .ref (a_t 4), .ref (a_t 5), .ref (a_t 6), .ref (a_t 7), .ref (a_t 8), .ref (a_t 9), .int t_taped, .int t_faultKind, .int t_faultPlace, .int t_at, .int t_begin, .int t_token, .int t_value, .int t_bad, .ref (a_t 18), .ref (a_t 19), .ref (a_t 20), .int t_wide, .int v5, .ref (a_t 23), .long w11, .ref (a_t 25), .int t_mask, .int t_mode, .int t_wanted, .int t_orders, .int t_foundAt, .long t_foundBy, .ref (a_t 32), .ref (a_t 33), .int t_unlikes, .ref (a_t 35), .ref (a_t 36)])), ((a_t 1), .inl (g.2.2.1 0, 27, .inl t_mem)), ((a_t 20), .inl (g.2.2.1 0, 8, .inl t_row)), ((a_t 23), .inl (g.2.2.1 1, 3, .inr (.inl w10)))]) (wr := []) (runV (As := [.long v1.toInt64, .long v2.toInt64, .long v3.toInt64]) (rest := []) cx hl.1 (ctX8_isWithin l g H.size a_t t_acted t_taped t_faultKind t_faultPlace t_at t_begin t_token t_value t_bad t_wide v5 t_det t_mask t_mode t_wanted t_orders t_foundAt t_foundBy t_unlikes t_mem t_row t_strain v1.toInt64 v2.toInt64 v3.toInt64 r9 w10 w11 hr8) kmX8_isWithin kvX8_isWithin lm_X8_300 ⟨rfl, rfl⟩ ⟨Nat.le_of_ble_eq_true rfl, Nat.le_of_ble_eq_true rfl⟩ (rwV (q0 := 0) (ci := 7) hG (hP.sub [0, 1, 2, 3] rfl) (hD.sub [0, 1, 2, 3] (by decide) rfl) hAb hb0 hS hP rfl rfl) rfl rfl (Nat.le_of_ble_eq_true rfl) dX8_weakest_55 ⟨Nat.le_of_ble_eq_true rfl, Nat.le_of_ble_eq_true rfl⟩) hP hD hS hA [0, 1, 2, 3] [] rfl rfl (by decide) (by decide) (fun _ => rfl) (fun hz13 u12 H locs hP hD hS => ?_)
        have hG := hGk hS
        refine lv_if_ne (tgt := 65) hx hb dX8_weakest_58 (by decide) (fun c14 => ?_) (fun c14 => ?_)
        · have h := itn c14 h
          exact w65 _ ih t_row t_wide v5 w10 w11 v1 v2 v3 v4 v5 _ _ hP hD hS _ (lv_sub hl [0, 1, 2, 3, 4, 5] rfl) h
        · have h := itp c14 h
          refine lv_iload hx hb dX8_weakest_61 (lv_at hl 5 rfl) ?_
          refine lv_istore (lv' := [(4, .int v5), (0, .ref ((a_t 0))), (1, .int v1), (2, .int v2), (3, .int v3), (5, .int v5)]) hx hb dX8_weakest_63 hl (by decide) rfl (fun ls hl => ?_)
          exact w65 _ ih t_row t_wide v5 w10 w11 v1 v2 v3 v5 v5 _ _ hP hD hS _ (lv_sub hl [1, 2, 3, 4, 0, 5] rfl) h
  unfold fX8_weakest at h
  refine lv_aload_n hx hb dX8_weakest_0 rfl (lv_at hl 0 rfl) ?_
  obtain ⟨w2, w3, w4, hr1, h⟩ := ob3_out h
  refine rw_v (WN := fun u5 => [((a_t 23), .inl (g.2.2.1 1, 3, .inr (.inl t_strain))), ((a_t 0), .inr (7, [.ref (a_t 1), .ref (a_t 2), .int t_acted, .ref (a_t 4), .ref (a_t 5), .ref (a_t 6), .ref (a_t 7), .ref (a_t 8), .ref (a_t 9), .int t_taped, .int t_faultKind, .int t_faultPlace, .int t_at, .int t_begin, .int t_token, .int t_value, .int t_bad, .ref (a_t 18), .ref (a_t 19), .ref (a_t 20), .int w3, .int w4, .ref (a_t 23), .long t_det, .ref (a_t 25), .int t_mask, .int t_mode, .int t_wanted, .int t_orders, .int t_foundAt, .long t_foundBy, .ref (a_t 32), .ref (a_t 33), .int t_unlikes, .ref (a_t 35), .ref (a_t 36)])), ((a_t 1), .inl (g.2.2.1 0, 27, .inl t_mem)), ((a_t 20), .inl (g.2.2.1 0, 8, .inl w2))]) (wr := [((a_t 23), .inl (g.2.2.1 1, 3, .inr (.inl t_strain)))]) (runV (As := []) (rest := []) cx hl.1 (ctX8_laysPlate l g s.heap.size a_t t_acted t_taped t_faultKind t_faultPlace t_at t_begin t_token t_value t_bad t_wide t_lost t_det t_mask t_mode t_wanted t_orders t_foundAt t_foundBy t_unlikes t_mem t_row w2 w3 w4 hr1) kmX8_laysPlate kvX8_laysPlate lm_X8_243 ⟨rfl, rfl⟩ ⟨Nat.le_of_ble_eq_true rfl, Nat.le_of_ble_eq_true rfl⟩ (rwV (q0 := 0) (ci := 7) hG (hP.sub [0, 1, 2] rfl) (hD.sub [0, 1, 2] (by decide) rfl) hAb hb0 hS hP rfl rfl) rfl rfl (Nat.le_of_ble_eq_true rfl) dX8_weakest_1 ⟨Nat.le_of_ble_eq_true rfl, Nat.le_of_ble_eq_true rfl⟩) hP hD hS hA [0, 1, 2] [3] rfl rfl (by decide) (by decide) (fun _ => rfl) (fun u5 H locs hP hD hS => ?_)
  have hG := hGk hS
  refine lv_iconst (v := 1) hx hb dX8_weakest_4 (by decide) ?_
  refine lv_aload_n hx hb dX8_weakest_5 rfl (lv_at hl 0 rfl) ?_
  refine xa_get (C := RX8) (T := TX8) (N := 36) cx hG hP 1 rfl rfl uX8 20 (by decide) lf_X8_206 rfl dX8_weakest_6 ?_
  refine lv_ishl hx hb dX8_weakest_9 ?_
  refine lv_iconst (v := 1) hx hb dX8_weakest_10 (by decide) ?_
  refine lv_isub hx hb dX8_weakest_11 ?_
  refine lv_istore (lv' := [(4, .int ((1 <<< (w3 &&& 31)) - 1)), (0, .ref ((a_t 0))), (1, .int v1), (2, .int v2), (3, .int v3)]) hx hb dX8_weakest_12 hl (by decide) rfl (fun ls hl => ?_)
  refine lv_iconst (v := 1) hx hb dX8_weakest_14 (by decide) ?_
  refine lv_aload_n hx hb dX8_weakest_15 rfl (lv_at hl 1 rfl) ?_
  refine xa_get (C := RX8) (T := TX8) (N := 36) cx hG hP 1 rfl rfl uX8 20 (by decide) lf_X8_206 rfl dX8_weakest_16 ?_
  refine lv_ishl hx hb dX8_weakest_19 ?_
  refine lv_iconst (v := 1) hx hb dX8_weakest_20 (by decide) ?_
  refine lv_isub hx hb dX8_weakest_21 ?_
  refine lv_istore (lv' := [(5, .int ((1 <<< (w3 &&& 31)) - 1)), (4, .int ((1 <<< (w3 &&& 31)) - 1)), (0, .ref ((a_t 0))), (1, .int v1), (2, .int v2), (3, .int v3)]) hx hb dX8_weakest_22 hl (by decide) rfl (fun ls hl => ?_)
  exact w24 FU w2 w3 w4 t_strain t_det v1 v2 v3 ((1 <<< (w3 &&& 31)) - 1) ((1 <<< (w3 &&& 31)) - 1) _ _ (hP.sub [1, 2, 3, 0] rfl) (hD.sub [1, 2, 3, 0] (by decide) rfl) hS _ (lv_sub hl [2, 3, 4, 5, 1, 0] rfl) h
-- X8_frail
theorem dX8_frail_0 : decode cX8_frail 0 = .ok (.aload_n 0, 1) := by decide +kernel
theorem dX8_frail_1 : decode cX8_frail 1 = .ok (.invokevirtual 236, 3) := by decide +kernel
theorem dX8_frail_4 : decode cX8_frail 4 = .ok (.ifCond .eq 25, 3) := by decide +kernel
theorem dX8_frail_7 : decode cX8_frail 7 = .ok (.iload_n 1, 1) := by decide +kernel
theorem dX8_frail_8 : decode cX8_frail 8 = .ok (.iload_n 2, 1) := by decide +kernel
theorem dX8_frail_9 : decode cX8_frail 9 = .ok (.iload_n 3, 1) := by decide +kernel
theorem dX8_frail_10 : decode cX8_frail 10 = .ok (.invokestatic 272, 3) := by decide +kernel
theorem dX8_frail_13 : decode cX8_frail 13 = .ok (.ifCond .eq 16, 3) := by decide +kernel
theorem dX8_frail_16 : decode cX8_frail 16 = .ok (.aload_n 0, 1) := by decide +kernel
theorem dX8_frail_17 : decode cX8_frail 17 = .ok (.iload_n 1, 1) := by decide +kernel
theorem dX8_frail_18 : decode cX8_frail 18 = .ok (.iload_n 2, 1) := by decide +kernel
theorem dX8_frail_19 : decode cX8_frail 19 = .ok (.iload_n 3, 1) := by decide +kernel
theorem dX8_frail_20 : decode cX8_frail 20 = .ok (.invokevirtual 309, 3) := by decide +kernel
theorem dX8_frail_23 : decode cX8_frail 23 = .ok (.invokestatic 303, 3) := by decide +kernel
theorem dX8_frail_26 : decode cX8_frail 26 = .ok (.goto 5, 3) := by decide +kernel
theorem dX8_frail_29 : decode cX8_frail 29 = .ok (.bipush (-2), 2) := by decide +kernel
theorem dX8_frail_31 : decode cX8_frail 31 = .ok (.ireturn, 1) := by decide +kernel
noncomputable def fX8_frail  (t_mem : Nat → Int32) (t_row : Nat → Int32) (t_wide : Int32) (t_lost : Int32) (t_strain : Nat → Int64) (t_det : Int64) (v1 : Int32) (v2 : Int32) (v3 : Int32) : Option (Int32 × (Nat → Int32) × Int32 × Int32 × (Nat → Int64) × Int64) := (fX8_is t_mem).bind fun r1 => (if r1 = 0 then some ((-2), t_row, t_wide, t_lost, t_strain, t_det) else (if (fX8_areLoads v1 v2 v3) = 0 then some ((-2), t_row, t_wide, t_lost, t_strain, t_det) else ob6 (fX8_weakest t_mem t_row t_wide t_lost t_strain t_det v1 v2 v3) fun r8 w9 w10 w11 w12 w13 => some ((fJ6_bitCount_0f7a4 r8), w9, w10, w11, w12, w13)))
set_option maxHeartbeats 4000000 in
set_option maxRecDepth 100000 in
theorem ctX8_frail (l : Launch) (g : GT) (sz : Nat) (a_t : Nat → Nat) (t_acted : Int32) (t_taped : Int32) (t_faultKind : Int32) (t_faultPlace : Int32) (t_at : Int32) (t_begin : Int32) (t_token : Int32) (t_value : Int32) (t_bad : Int32) (t_wide : Int32) (t_lost : Int32) (t_det : Int64) (t_mask : Int32) (t_mode : Int32) (t_wanted : Int32) (t_orders : Int32) (t_foundAt : Int32) (t_foundBy : Int64) (t_unlikes : Int32) (t_mem : Nat → Int32) (t_row : Nat → Int32) (t_strain : Nat → Int64) (v1 : Int32) (v2 : Int32) (v3 : Int32) (o : Int32) (o_t_row : Nat → Int32) (o_t_wide : Int32) (o_t_lost : Int32) (o_t_strain : Nat → Int64) (o_t_det : Int64) (h : fX8_frail t_mem t_row t_wide t_lost t_strain t_det v1 v2 v3 = some (o, o_t_row, o_t_wide, o_t_lost, o_t_strain, o_t_det)) : Met l yX8_frail (Cond.code yX8_frail cX8_frail 4 (some .int) :: Tw) ⟨7, 0, 0, 186⟩ (va_Pc [.ref ((a_t 0)), .int v1, .int v2, .int v3] (rwB g [((a_t 0), .inr (7, [.ref (a_t 1), .ref (a_t 2), .int t_acted, .ref (a_t 4), .ref (a_t 5), .ref (a_t 6), .ref (a_t 7), .ref (a_t 8), .ref (a_t 9), .int t_taped, .int t_faultKind, .int t_faultPlace, .int t_at, .int t_begin, .int t_token, .int t_value, .int t_bad, .ref (a_t 18), .ref (a_t 19), .ref (a_t 20), .int t_wide, .int t_lost, .ref (a_t 23), .long t_det, .ref (a_t 25), .int t_mask, .int t_mode, .int t_wanted, .int t_orders, .int t_foundAt, .long t_foundBy, .ref (a_t 32), .ref (a_t 33), .int t_unlikes, .ref (a_t 35), .ref (a_t 36)])), ((a_t 1), .inl (g.2.2.1 0, 27, .inl t_mem)), ((a_t 20), .inl (g.2.2.1 0, 8, .inl t_row)), ((a_t 23), .inl (g.2.2.1 1, 3, .inr (.inl t_strain)))] sz)) (va_Qi (fun x (_ : Nat → Nat) => x = o) (fun u => rwE g (va_A [((a_t 0), .inr (7, [.ref (a_t 1), .ref (a_t 2), .int t_acted, .ref (a_t 4), .ref (a_t 5), .ref (a_t 6), .ref (a_t 7), .ref (a_t 8), .ref (a_t 9), .int t_taped, .int t_faultKind, .int t_faultPlace, .int t_at, .int t_begin, .int t_token, .int t_value, .int t_bad, .ref (a_t 18), .ref (a_t 19), .ref (a_t 20), .int t_wide, .int t_lost, .ref (a_t 23), .long t_det, .ref (a_t 25), .int t_mask, .int t_mode, .int t_wanted, .int t_orders, .int t_foundAt, .long t_foundBy, .ref (a_t 32), .ref (a_t 33), .int t_unlikes, .ref (a_t 35), .ref (a_t 36)])), ((a_t 1), .inl (g.2.2.1 0, 27, .inl t_mem)), ((a_t 20), .inl (g.2.2.1 0, 8, .inl t_row)), ((a_t 23), .inl (g.2.2.1 1, 3, .inr (.inl t_strain)))] sz) [((a_t 0), .inr (7, [.ref (a_t 1), .ref (a_t 2), .int t_acted, .ref (a_t 4), .ref (a_t 5), .ref (a_t 6), .ref (a_t 7), .ref (a_t 8), .ref (a_t 9), .int t_taped, .int t_faultKind, .int t_faultPlace, .int t_at, .int t_begin, .int t_token, .int t_value, .int t_bad, .ref (a_t 18), .ref (a_t 19), .ref (a_t 20), .int o_t_wide, .int o_t_lost, .ref (a_t 23), .long o_t_det, .ref (a_t 25), .int t_mask, .int t_mode, .int t_wanted, .int t_orders, .int t_foundAt, .long t_foundBy, .ref (a_t 32), .ref (a_t 33), .int t_unlikes, .ref (a_t 35), .ref (a_t 36)])), ((a_t 1), .inl (g.2.2.1 0, 27, .inl t_mem)), ((a_t 20), .inl (g.2.2.1 0, 8, .inl o_t_row)), ((a_t 23), .inl (g.2.2.1 1, 3, .inr (.inl o_t_strain)))]) (va_A [((a_t 0), .inr (7, [.ref (a_t 1), .ref (a_t 2), .int t_acted, .ref (a_t 4), .ref (a_t 5), .ref (a_t 6), .ref (a_t 7), .ref (a_t 8), .ref (a_t 9), .int t_taped, .int t_faultKind, .int t_faultPlace, .int t_at, .int t_begin, .int t_token, .int t_value, .int t_bad, .ref (a_t 18), .ref (a_t 19), .ref (a_t 20), .int t_wide, .int t_lost, .ref (a_t 23), .long t_det, .ref (a_t 25), .int t_mask, .int t_mode, .int t_wanted, .int t_orders, .int t_foundAt, .long t_foundBy, .ref (a_t 32), .ref (a_t 33), .int t_unlikes, .ref (a_t 35), .ref (a_t 36)])), ((a_t 1), .inl (g.2.2.1 0, 27, .inl t_mem)), ((a_t 20), .inl (g.2.2.1 0, 8, .inl t_row)), ((a_t 23), .inl (g.2.2.1 1, 3, .inr (.inl t_strain)))] sz)) 0 0 (va_A [((a_t 0), .inr (7, [.ref (a_t 1), .ref (a_t 2), .int t_acted, .ref (a_t 4), .ref (a_t 5), .ref (a_t 6), .ref (a_t 7), .ref (a_t 8), .ref (a_t 9), .int t_taped, .int t_faultKind, .int t_faultPlace, .int t_at, .int t_begin, .int t_token, .int t_value, .int t_bad, .ref (a_t 18), .ref (a_t 19), .ref (a_t 20), .int t_wide, .int t_lost, .ref (a_t 23), .long t_det, .ref (a_t 25), .int t_mask, .int t_mode, .int t_wanted, .int t_orders, .int t_foundAt, .long t_foundBy, .ref (a_t 32), .ref (a_t 33), .int t_unlikes, .ref (a_t 35), .ref (a_t 36)])), ((a_t 1), .inl (g.2.2.1 0, 27, .inl t_mem)), ((a_t 20), .inl (g.2.2.1 0, 8, .inl t_row)), ((a_t 23), .inl (g.2.2.1 1, 3, .inr (.inl t_strain)))] sz) := by
  refine rw_meti (by decide) (Nat.le_of_ble_eq_true rfl) (lv0 := [(0, .ref ((a_t 0))), (1, .int v1), (2, .int v2), (3, .int v3)]) rfl ?_
  intro p e s m args below meth c ls Q A cx hret hG hAb hb0 hA hP hD hl
  have hx := cx.1
  have hb := cx.2.1
  have hG0 := hG
  have hGk : ∀ {H : Heap} {locs : List Loc}, va_S A s.heap H locs → GE g s H := fun hS => hG0.keptS hAb hS
  have hSb : ∀ {H : Heap} {locs : List Loc}, va_S A s.heap H locs → va_S (fun a => g.1 ≤ a) s.heap H locs := fun hS => ⟨hS.1, fun q h1 h2 => hS.2.1 q h1 (fun z => h2 (hAb q z)), fun l hl => hAb _ (hS.2.2 l hl)⟩
  have hS : va_S A s.heap s.heap [] := va_S.rf
  have hrt : ∀ (u : Nat → Nat) (pc : Nat) (ls : Array Slot) (v : Int32) (x_t_row : Nat → Int32) (x_t_wide : Int32) (x_t_lost : Int32) (x_t_strain : Nat → Int64) (x_t_det : Int64) (H : Heap) (locs : List Loc), decode cX8_frail pc = .ok (.ireturn, 1) → some (v, x_t_row, x_t_wide, x_t_lost, x_t_strain, x_t_det) = some (o, o_t_row, o_t_wide, o_t_lost, o_t_strain, o_t_det) → va_P g.2.1 vwCl [((a_t 0), .inr (7, [.ref (a_t 1), .ref (a_t 2), .int t_acted, .ref (a_t 4), .ref (a_t 5), .ref (a_t 6), .ref (a_t 7), .ref (a_t 8), .ref (a_t 9), .int t_taped, .int t_faultKind, .int t_faultPlace, .int t_at, .int t_begin, .int t_token, .int t_value, .int t_bad, .ref (a_t 18), .ref (a_t 19), .ref (a_t 20), .int x_t_wide, .int x_t_lost, .ref (a_t 23), .long x_t_det, .ref (a_t 25), .int t_mask, .int t_mode, .int t_wanted, .int t_orders, .int t_foundAt, .long t_foundBy, .ref (a_t 32), .ref (a_t 33), .int t_unlikes, .ref (a_t 35), .ref (a_t 36)])), ((a_t 1), .inl (g.2.2.1 0, 27, .inl t_mem)), ((a_t 20), .inl (g.2.2.1 0, 8, .inl x_t_row)), ((a_t 23), .inl (g.2.2.1 1, 3, .inr (.inl x_t_strain)))] H → va_D A [((a_t 0), .inr (7, [.ref (a_t 1), .ref (a_t 2), .int t_acted, .ref (a_t 4), .ref (a_t 5), .ref (a_t 6), .ref (a_t 7), .ref (a_t 8), .ref (a_t 9), .int t_taped, .int t_faultKind, .int t_faultPlace, .int t_at, .int t_begin, .int t_token, .int t_value, .int t_bad, .ref (a_t 18), .ref (a_t 19), .ref (a_t 20), .int x_t_wide, .int x_t_lost, .ref (a_t 23), .long x_t_det, .ref (a_t 25), .int t_mask, .int t_mode, .int t_wanted, .int t_orders, .int t_foundAt, .long t_foundBy, .ref (a_t 32), .ref (a_t 33), .int t_unlikes, .ref (a_t 35), .ref (a_t 36)])), ((a_t 1), .inl (g.2.2.1 0, 27, .inl t_mem)), ((a_t 20), .inl (g.2.2.1 0, 8, .inl x_t_row)), ((a_t 23), .inl (g.2.2.1 1, 3, .inr (.inl x_t_strain)))] → va_S A s.heap H locs → W p l e ⟨7, 0, 0, 186⟩ s m args below meth c H locs 0 0 Q (F0 m pc ls [.int v]) := by
    intro u pc ls v x_t_row x_t_wide x_t_lost x_t_strain x_t_det H locs hd h hP hD hS
    cases h
    exact hret u _ _ _ _ _ hd rfl hP hD hS
  unfold fX8_frail at h
  refine lv_aload_n hx hb dX8_frail_0 rfl (lv_at hl 0 rfl) ?_
  obtain ⟨r1, hr2, h⟩ := bnd h
  refine ro_z (runV (As := []) (rest := []) cx hl.1 (ctX8_is l g a_t t_acted t_taped t_faultKind t_faultPlace t_at t_begin t_token t_value t_bad t_wide t_lost t_det t_mask t_mode t_wanted t_orders t_foundAt t_foundBy t_unlikes t_mem r1 hr2) kmX8_is kvX8_is lm_X8_236 ⟨rfl, rfl⟩ ⟨Nat.le_of_ble_eq_true rfl, Nat.le_of_ble_eq_true rfl⟩ (roV (q0 := 0) (ci := 7) hG (hP.sub [0, 1] rfl) hP rfl rfl) rfl rfl (Nat.le_of_ble_eq_true rfl) dX8_frail_1 ⟨Nat.le_of_ble_eq_true rfl, Nat.le_of_ble_eq_true rfl⟩) (fun hz3 => ?_)
  refine lv_if_eq (tgt := 29) hx hb dX8_frail_4 (by decide) (fun c4 => ?_) (fun c4 => ?_)
  · have h := itp c4 h
    refine lv_bipush (v := -2) hx hb dX8_frail_29 (by decide) ?_
    exact hrt (fun _ => 0) _ _ ((-2)) t_row t_wide t_lost t_strain t_det _ _ dX8_frail_31 h (hP.sub [0, 1, 2, 3] rfl) (hD.sub [0, 1, 2, 3] (by decide) rfl) hS
  · have h := itn c4 h
    refine lv_iload_n hx hb dX8_frail_7 rfl (lv_at hl 1 rfl) ?_
    refine lv_iload_n hx hb dX8_frail_8 rfl (lv_at hl 2 rfl) ?_
    refine lv_iload_n hx hb dX8_frail_9 rfl (lv_at hl 3 rfl) ?_
    refine ro_z (runS (As := [.int v1, .int v2, .int v3]) (rest := []) cx hl.1 (ctX8_areLoads l g v1 v2 v3 (fX8_areLoads v1 v2 v3) rfl) kmX8_areLoads ksX8_areLoads lm_X8_272 ⟨rfl, rfl⟩ ⟨Nat.le_of_ble_eq_true rfl, Nat.le_of_ble_eq_true rfl⟩ (roS hG (hP.sub [] rfl)) rfl rfl (Nat.le_of_ble_eq_true rfl) dX8_frail_10 ⟨Nat.le_of_ble_eq_true rfl, Nat.le_of_ble_eq_true rfl⟩) (fun hz5 => ?_)
    refine lv_if_eq (tgt := 29) hx hb dX8_frail_13 (by decide) (fun c6 => ?_) (fun c6 => ?_)
    · have h := itp c6 h
      refine lv_bipush (v := -2) hx hb dX8_frail_29 (by decide) ?_
      exact hrt (fun _ => 0) _ _ ((-2)) t_row t_wide t_lost t_strain t_det _ _ dX8_frail_31 h (hP.sub [0, 1, 2, 3] rfl) (hD.sub [0, 1, 2, 3] (by decide) rfl) hS
    · have h := itn c6 h
      refine lv_aload_n hx hb dX8_frail_16 rfl (lv_at hl 0 rfl) ?_
      refine lv_iload_n hx hb dX8_frail_17 rfl (lv_at hl 1 rfl) ?_
      refine lv_iload_n hx hb dX8_frail_18 rfl (lv_at hl 2 rfl) ?_
      refine lv_iload_n hx hb dX8_frail_19 rfl (lv_at hl 3 rfl) ?_
      obtain ⟨r8, w9, w10, w11, w12, w13, hr7, h⟩ := ob6_out h
      refine rw_i (WN := fun u14 => [((a_t 0), .inr (7, [.ref (a_t 1), .ref (a_t 2), .int t_acted, .ref (a_t 4), .ref (a_t 5), .ref (a_t 6), .ref (a_t 7), .ref (a_t 8), .ref (a_t 9), .int t_taped, .int t_faultKind, .int t_faultPlace, .int t_at, .int t_begin, .int t_token, .int t_value, .int t_bad, .ref (a_t 18), .ref (a_t 19), .ref (a_t 20), .int w10, .int w11, .ref (a_t 23), .long w13, .ref (a_t 25), .int t_mask, .int t_mode, .int t_wanted, .int t_orders, .int t_foundAt, .long t_foundBy, .ref (a_t 32), .ref (a_t 33), .int t_unlikes, .ref (a_t 35), .ref (a_t 36)])), ((a_t 1), .inl (g.2.2.1 0, 27, .inl t_mem)), ((a_t 20), .inl (g.2.2.1 0, 8, .inl w9)), ((a_t 23), .inl (g.2.2.1 1, 3, .inr (.inl w12)))]) (wr := []) (runV (As := [.int v1, .int v2, .int v3]) (rest := []) cx hl.1 (ctX8_weakest l g s.heap.size a_t t_acted t_taped t_faultKind t_faultPlace t_at t_begin t_token t_value t_bad t_wide t_lost t_det t_mask t_mode t_wanted t_orders t_foundAt t_foundBy t_unlikes t_mem t_row t_strain v1 v2 v3 r8 w9 w10 w11 w12 w13 hr7) kmX8_weakest kvX8_weakest lm_X8_309 ⟨rfl, rfl⟩ ⟨Nat.le_of_ble_eq_true rfl, Nat.le_of_ble_eq_true rfl⟩ (rwV (q0 := 0) (ci := 7) hG (hP.sub [0, 1, 2, 3] rfl) (hD.sub [0, 1, 2, 3] (by decide) rfl) hAb hb0 hS hP rfl rfl) rfl rfl (Nat.le_of_ble_eq_true rfl) dX8_frail_20 ⟨Nat.le_of_ble_eq_true rfl, Nat.le_of_ble_eq_true rfl⟩) hP hD hS hA [0, 1, 2, 3] [] rfl rfl (by decide) (by decide) (fun _ => rfl) (fun u14 H locs hP hD hS => ?_)
      have hG := hGk hS
      refine ro_i (runS (As := [.int r8]) (rest := []) cx hl.1 (ctJ6_bitCount_0f7a4 l g r8 (fJ6_bitCount_0f7a4 r8) rfl) kmJ6_bitCount_0f7a4 ksJ6_bitCount_0f7a4 lm_X8_303 ⟨rfl, rfl⟩ ⟨Nat.le_of_ble_eq_true rfl, Nat.le_of_ble_eq_true rfl⟩ (roS hG (hP.sub [] rfl)) rfl rfl (Nat.le_of_ble_eq_true rfl) dX8_frail_23 ⟨Nat.le_of_ble_eq_true rfl, Nat.le_of_ble_eq_true rfl⟩) ?_
      refine lv_goto (tgt := 31) hx hb dX8_frail_26 (by decide) ?_
      exact hrt (fun _ => 0) _ _ ((fJ6_bitCount_0f7a4 r8)) w9 w10 w11 w12 w13 _ _ dX8_frail_31 h (hP.sub [0, 1, 2, 3] rfl) (hD.sub [0, 1, 2, 3] (by decide) rfl) hS
-- X8_frailSet
theorem dX8_frailSet_0 : decode cX8_frailSet 0 = .ok (.aload_n 0, 1) := by decide +kernel
theorem dX8_frailSet_1 : decode cX8_frailSet 1 = .ok (.invokevirtual 236, 3) := by decide +kernel
theorem dX8_frailSet_4 : decode cX8_frailSet 4 = .ok (.ifCond .eq 22, 3) := by decide +kernel
theorem dX8_frailSet_7 : decode cX8_frailSet 7 = .ok (.iload_n 1, 1) := by decide +kernel
theorem dX8_frailSet_8 : decode cX8_frailSet 8 = .ok (.iload_n 2, 1) := by decide +kernel
theorem dX8_frailSet_9 : decode cX8_frailSet 9 = .ok (.iload_n 3, 1) := by decide +kernel
theorem dX8_frailSet_10 : decode cX8_frailSet 10 = .ok (.invokestatic 272, 3) := by decide +kernel
theorem dX8_frailSet_13 : decode cX8_frailSet 13 = .ok (.ifCond .eq 13, 3) := by decide +kernel
theorem dX8_frailSet_16 : decode cX8_frailSet 16 = .ok (.aload_n 0, 1) := by decide +kernel
theorem dX8_frailSet_17 : decode cX8_frailSet 17 = .ok (.iload_n 1, 1) := by decide +kernel
theorem dX8_frailSet_18 : decode cX8_frailSet 18 = .ok (.iload_n 2, 1) := by decide +kernel
theorem dX8_frailSet_19 : decode cX8_frailSet 19 = .ok (.iload_n 3, 1) := by decide +kernel
theorem dX8_frailSet_20 : decode cX8_frailSet 20 = .ok (.invokevirtual 309, 3) := by decide +kernel
theorem dX8_frailSet_23 : decode cX8_frailSet 23 = .ok (.goto 5, 3) := by decide +kernel
theorem dX8_frailSet_26 : decode cX8_frailSet 26 = .ok (.bipush (-2), 2) := by decide +kernel
theorem dX8_frailSet_28 : decode cX8_frailSet 28 = .ok (.ireturn, 1) := by decide +kernel
noncomputable def fX8_frailSet  (t_mem : Nat → Int32) (t_row : Nat → Int32) (t_wide : Int32) (t_lost : Int32) (t_strain : Nat → Int64) (t_det : Int64) (v1 : Int32) (v2 : Int32) (v3 : Int32) : Option (Int32 × (Nat → Int32) × Int32 × Int32 × (Nat → Int64) × Int64) := (fX8_is t_mem).bind fun r1 => (if r1 = 0 then some ((-2), t_row, t_wide, t_lost, t_strain, t_det) else (if (fX8_areLoads v1 v2 v3) = 0 then some ((-2), t_row, t_wide, t_lost, t_strain, t_det) else ob6 (fX8_weakest t_mem t_row t_wide t_lost t_strain t_det v1 v2 v3) fun r8 w9 w10 w11 w12 w13 => some (r8, w9, w10, w11, w12, w13)))
set_option maxHeartbeats 4000000 in
set_option maxRecDepth 100000 in
theorem ctX8_frailSet (l : Launch) (g : GT) (sz : Nat) (a_t : Nat → Nat) (t_acted : Int32) (t_taped : Int32) (t_faultKind : Int32) (t_faultPlace : Int32) (t_at : Int32) (t_begin : Int32) (t_token : Int32) (t_value : Int32) (t_bad : Int32) (t_wide : Int32) (t_lost : Int32) (t_det : Int64) (t_mask : Int32) (t_mode : Int32) (t_wanted : Int32) (t_orders : Int32) (t_foundAt : Int32) (t_foundBy : Int64) (t_unlikes : Int32) (t_mem : Nat → Int32) (t_row : Nat → Int32) (t_strain : Nat → Int64) (v1 : Int32) (v2 : Int32) (v3 : Int32) (o : Int32) (o_t_row : Nat → Int32) (o_t_wide : Int32) (o_t_lost : Int32) (o_t_strain : Nat → Int64) (o_t_det : Int64) (h : fX8_frailSet t_mem t_row t_wide t_lost t_strain t_det v1 v2 v3 = some (o, o_t_row, o_t_wide, o_t_lost, o_t_strain, o_t_det)) : Met l yX8_frailSet (Cond.code yX8_frailSet cX8_frailSet 4 (some .int) :: Tw) ⟨7, 0, 0, 186⟩ (va_Pc [.ref ((a_t 0)), .int v1, .int v2, .int v3] (rwB g [((a_t 0), .inr (7, [.ref (a_t 1), .ref (a_t 2), .int t_acted, .ref (a_t 4), .ref (a_t 5), .ref (a_t 6), .ref (a_t 7), .ref (a_t 8), .ref (a_t 9), .int t_taped, .int t_faultKind, .int t_faultPlace, .int t_at, .int t_begin, .int t_token, .int t_value, .int t_bad, .ref (a_t 18), .ref (a_t 19), .ref (a_t 20), .int t_wide, .int t_lost, .ref (a_t 23), .long t_det, .ref (a_t 25), .int t_mask, .int t_mode, .int t_wanted, .int t_orders, .int t_foundAt, .long t_foundBy, .ref (a_t 32), .ref (a_t 33), .int t_unlikes, .ref (a_t 35), .ref (a_t 36)])), ((a_t 1), .inl (g.2.2.1 0, 27, .inl t_mem)), ((a_t 20), .inl (g.2.2.1 0, 8, .inl t_row)), ((a_t 23), .inl (g.2.2.1 1, 3, .inr (.inl t_strain)))] sz)) (va_Qi (fun x (_ : Nat → Nat) => x = o) (fun u => rwE g (va_A [((a_t 0), .inr (7, [.ref (a_t 1), .ref (a_t 2), .int t_acted, .ref (a_t 4), .ref (a_t 5), .ref (a_t 6), .ref (a_t 7), .ref (a_t 8), .ref (a_t 9), .int t_taped, .int t_faultKind, .int t_faultPlace, .int t_at, .int t_begin, .int t_token, .int t_value, .int t_bad, .ref (a_t 18), .ref (a_t 19), .ref (a_t 20), .int t_wide, .int t_lost, .ref (a_t 23), .long t_det, .ref (a_t 25), .int t_mask, .int t_mode, .int t_wanted, .int t_orders, .int t_foundAt, .long t_foundBy, .ref (a_t 32), .ref (a_t 33), .int t_unlikes, .ref (a_t 35), .ref (a_t 36)])), ((a_t 1), .inl (g.2.2.1 0, 27, .inl t_mem)), ((a_t 20), .inl (g.2.2.1 0, 8, .inl t_row)), ((a_t 23), .inl (g.2.2.1 1, 3, .inr (.inl t_strain)))] sz) [((a_t 0), .inr (7, [.ref (a_t 1), .ref (a_t 2), .int t_acted, .ref (a_t 4), .ref (a_t 5), .ref (a_t 6), .ref (a_t 7), .ref (a_t 8), .ref (a_t 9), .int t_taped, .int t_faultKind, .int t_faultPlace, .int t_at, .int t_begin, .int t_token, .int t_value, .int t_bad, .ref (a_t 18), .ref (a_t 19), .ref (a_t 20), .int o_t_wide, .int o_t_lost, .ref (a_t 23), .long o_t_det, .ref (a_t 25), .int t_mask, .int t_mode, .int t_wanted, .int t_orders, .int t_foundAt, .long t_foundBy, .ref (a_t 32), .ref (a_t 33), .int t_unlikes, .ref (a_t 35), .ref (a_t 36)])), ((a_t 1), .inl (g.2.2.1 0, 27, .inl t_mem)), ((a_t 20), .inl (g.2.2.1 0, 8, .inl o_t_row)), ((a_t 23), .inl (g.2.2.1 1, 3, .inr (.inl o_t_strain)))]) (va_A [((a_t 0), .inr (7, [.ref (a_t 1), .ref (a_t 2), .int t_acted, .ref (a_t 4), .ref (a_t 5), .ref (a_t 6), .ref (a_t 7), .ref (a_t 8), .ref (a_t 9), .int t_taped, .int t_faultKind, .int t_faultPlace, .int t_at, .int t_begin, .int t_token, .int t_value, .int t_bad, .ref (a_t 18), .ref (a_t 19), .ref (a_t 20), .int t_wide, .int t_lost, .ref (a_t 23), .long t_det, .ref (a_t 25), .int t_mask, .int t_mode, .int t_wanted, .int t_orders, .int t_foundAt, .long t_foundBy, .ref (a_t 32), .ref (a_t 33), .int t_unlikes, .ref (a_t 35), .ref (a_t 36)])), ((a_t 1), .inl (g.2.2.1 0, 27, .inl t_mem)), ((a_t 20), .inl (g.2.2.1 0, 8, .inl t_row)), ((a_t 23), .inl (g.2.2.1 1, 3, .inr (.inl t_strain)))] sz)) 0 0 (va_A [((a_t 0), .inr (7, [.ref (a_t 1), .ref (a_t 2), .int t_acted, .ref (a_t 4), .ref (a_t 5), .ref (a_t 6), .ref (a_t 7), .ref (a_t 8), .ref (a_t 9), .int t_taped, .int t_faultKind, .int t_faultPlace, .int t_at, .int t_begin, .int t_token, .int t_value, .int t_bad, .ref (a_t 18), .ref (a_t 19), .ref (a_t 20), .int t_wide, .int t_lost, .ref (a_t 23), .long t_det, .ref (a_t 25), .int t_mask, .int t_mode, .int t_wanted, .int t_orders, .int t_foundAt, .long t_foundBy, .ref (a_t 32), .ref (a_t 33), .int t_unlikes, .ref (a_t 35), .ref (a_t 36)])), ((a_t 1), .inl (g.2.2.1 0, 27, .inl t_mem)), ((a_t 20), .inl (g.2.2.1 0, 8, .inl t_row)), ((a_t 23), .inl (g.2.2.1 1, 3, .inr (.inl t_strain)))] sz) := by
  refine rw_meti (by decide) (Nat.le_of_ble_eq_true rfl) (lv0 := [(0, .ref ((a_t 0))), (1, .int v1), (2, .int v2), (3, .int v3)]) rfl ?_
  intro p e s m args below meth c ls Q A cx hret hG hAb hb0 hA hP hD hl
  have hx := cx.1
  have hb := cx.2.1
  have hG0 := hG
  have hGk : ∀ {H : Heap} {locs : List Loc}, va_S A s.heap H locs → GE g s H := fun hS => hG0.keptS hAb hS
  have hSb : ∀ {H : Heap} {locs : List Loc}, va_S A s.heap H locs → va_S (fun a => g.1 ≤ a) s.heap H locs := fun hS => ⟨hS.1, fun q h1 h2 => hS.2.1 q h1 (fun z => h2 (hAb q z)), fun l hl => hAb _ (hS.2.2 l hl)⟩
  have hS : va_S A s.heap s.heap [] := va_S.rf
  have hrt : ∀ (u : Nat → Nat) (pc : Nat) (ls : Array Slot) (v : Int32) (x_t_row : Nat → Int32) (x_t_wide : Int32) (x_t_lost : Int32) (x_t_strain : Nat → Int64) (x_t_det : Int64) (H : Heap) (locs : List Loc), decode cX8_frailSet pc = .ok (.ireturn, 1) → some (v, x_t_row, x_t_wide, x_t_lost, x_t_strain, x_t_det) = some (o, o_t_row, o_t_wide, o_t_lost, o_t_strain, o_t_det) → va_P g.2.1 vwCl [((a_t 0), .inr (7, [.ref (a_t 1), .ref (a_t 2), .int t_acted, .ref (a_t 4), .ref (a_t 5), .ref (a_t 6), .ref (a_t 7), .ref (a_t 8), .ref (a_t 9), .int t_taped, .int t_faultKind, .int t_faultPlace, .int t_at, .int t_begin, .int t_token, .int t_value, .int t_bad, .ref (a_t 18), .ref (a_t 19), .ref (a_t 20), .int x_t_wide, .int x_t_lost, .ref (a_t 23), .long x_t_det, .ref (a_t 25), .int t_mask, .int t_mode, .int t_wanted, .int t_orders, .int t_foundAt, .long t_foundBy, .ref (a_t 32), .ref (a_t 33), .int t_unlikes, .ref (a_t 35), .ref (a_t 36)])), ((a_t 1), .inl (g.2.2.1 0, 27, .inl t_mem)), ((a_t 20), .inl (g.2.2.1 0, 8, .inl x_t_row)), ((a_t 23), .inl (g.2.2.1 1, 3, .inr (.inl x_t_strain)))] H → va_D A [((a_t 0), .inr (7, [.ref (a_t 1), .ref (a_t 2), .int t_acted, .ref (a_t 4), .ref (a_t 5), .ref (a_t 6), .ref (a_t 7), .ref (a_t 8), .ref (a_t 9), .int t_taped, .int t_faultKind, .int t_faultPlace, .int t_at, .int t_begin, .int t_token, .int t_value, .int t_bad, .ref (a_t 18), .ref (a_t 19), .ref (a_t 20), .int x_t_wide, .int x_t_lost, .ref (a_t 23), .long x_t_det, .ref (a_t 25), .int t_mask, .int t_mode, .int t_wanted, .int t_orders, .int t_foundAt, .long t_foundBy, .ref (a_t 32), .ref (a_t 33), .int t_unlikes, .ref (a_t 35), .ref (a_t 36)])), ((a_t 1), .inl (g.2.2.1 0, 27, .inl t_mem)), ((a_t 20), .inl (g.2.2.1 0, 8, .inl x_t_row)), ((a_t 23), .inl (g.2.2.1 1, 3, .inr (.inl x_t_strain)))] → va_S A s.heap H locs → W p l e ⟨7, 0, 0, 186⟩ s m args below meth c H locs 0 0 Q (F0 m pc ls [.int v]) := by
    intro u pc ls v x_t_row x_t_wide x_t_lost x_t_strain x_t_det H locs hd h hP hD hS
    cases h
    exact hret u _ _ _ _ _ hd rfl hP hD hS
  unfold fX8_frailSet at h
  refine lv_aload_n hx hb dX8_frailSet_0 rfl (lv_at hl 0 rfl) ?_
  obtain ⟨r1, hr2, h⟩ := bnd h
  refine ro_z (runV (As := []) (rest := []) cx hl.1 (ctX8_is l g a_t t_acted t_taped t_faultKind t_faultPlace t_at t_begin t_token t_value t_bad t_wide t_lost t_det t_mask t_mode t_wanted t_orders t_foundAt t_foundBy t_unlikes t_mem r1 hr2) kmX8_is kvX8_is lm_X8_236 ⟨rfl, rfl⟩ ⟨Nat.le_of_ble_eq_true rfl, Nat.le_of_ble_eq_true rfl⟩ (roV (q0 := 0) (ci := 7) hG (hP.sub [0, 1] rfl) hP rfl rfl) rfl rfl (Nat.le_of_ble_eq_true rfl) dX8_frailSet_1 ⟨Nat.le_of_ble_eq_true rfl, Nat.le_of_ble_eq_true rfl⟩) (fun hz3 => ?_)
  refine lv_if_eq (tgt := 26) hx hb dX8_frailSet_4 (by decide) (fun c4 => ?_) (fun c4 => ?_)
  · have h := itp c4 h
    refine lv_bipush (v := -2) hx hb dX8_frailSet_26 (by decide) ?_
    exact hrt (fun _ => 0) _ _ ((-2)) t_row t_wide t_lost t_strain t_det _ _ dX8_frailSet_28 h (hP.sub [0, 1, 2, 3] rfl) (hD.sub [0, 1, 2, 3] (by decide) rfl) hS
  · have h := itn c4 h
    refine lv_iload_n hx hb dX8_frailSet_7 rfl (lv_at hl 1 rfl) ?_
    refine lv_iload_n hx hb dX8_frailSet_8 rfl (lv_at hl 2 rfl) ?_
    refine lv_iload_n hx hb dX8_frailSet_9 rfl (lv_at hl 3 rfl) ?_
    refine ro_z (runS (As := [.int v1, .int v2, .int v3]) (rest := []) cx hl.1 (ctX8_areLoads l g v1 v2 v3 (fX8_areLoads v1 v2 v3) rfl) kmX8_areLoads ksX8_areLoads lm_X8_272 ⟨rfl, rfl⟩ ⟨Nat.le_of_ble_eq_true rfl, Nat.le_of_ble_eq_true rfl⟩ (roS hG (hP.sub [] rfl)) rfl rfl (Nat.le_of_ble_eq_true rfl) dX8_frailSet_10 ⟨Nat.le_of_ble_eq_true rfl, Nat.le_of_ble_eq_true rfl⟩) (fun hz5 => ?_)
    refine lv_if_eq (tgt := 26) hx hb dX8_frailSet_13 (by decide) (fun c6 => ?_) (fun c6 => ?_)
    · have h := itp c6 h
      refine lv_bipush (v := -2) hx hb dX8_frailSet_26 (by decide) ?_
      exact hrt (fun _ => 0) _ _ ((-2)) t_row t_wide t_lost t_strain t_det _ _ dX8_frailSet_28 h (hP.sub [0, 1, 2, 3] rfl) (hD.sub [0, 1, 2, 3] (by decide) rfl) hS
    · have h := itn c6 h
      refine lv_aload_n hx hb dX8_frailSet_16 rfl (lv_at hl 0 rfl) ?_
      refine lv_iload_n hx hb dX8_frailSet_17 rfl (lv_at hl 1 rfl) ?_
      refine lv_iload_n hx hb dX8_frailSet_18 rfl (lv_at hl 2 rfl) ?_
      refine lv_iload_n hx hb dX8_frailSet_19 rfl (lv_at hl 3 rfl) ?_
      obtain ⟨r8, w9, w10, w11, w12, w13, hr7, h⟩ := ob6_out h
      refine rw_i (WN := fun u14 => [((a_t 0), .inr (7, [.ref (a_t 1), .ref (a_t 2), .int t_acted, .ref (a_t 4), .ref (a_t 5), .ref (a_t 6), .ref (a_t 7), .ref (a_t 8), .ref (a_t 9), .int t_taped, .int t_faultKind, .int t_faultPlace, .int t_at, .int t_begin, .int t_token, .int t_value, .int t_bad, .ref (a_t 18), .ref (a_t 19), .ref (a_t 20), .int w10, .int w11, .ref (a_t 23), .long w13, .ref (a_t 25), .int t_mask, .int t_mode, .int t_wanted, .int t_orders, .int t_foundAt, .long t_foundBy, .ref (a_t 32), .ref (a_t 33), .int t_unlikes, .ref (a_t 35), .ref (a_t 36)])), ((a_t 1), .inl (g.2.2.1 0, 27, .inl t_mem)), ((a_t 20), .inl (g.2.2.1 0, 8, .inl w9)), ((a_t 23), .inl (g.2.2.1 1, 3, .inr (.inl w12)))]) (wr := []) (runV (As := [.int v1, .int v2, .int v3]) (rest := []) cx hl.1 (ctX8_weakest l g s.heap.size a_t t_acted t_taped t_faultKind t_faultPlace t_at t_begin t_token t_value t_bad t_wide t_lost t_det t_mask t_mode t_wanted t_orders t_foundAt t_foundBy t_unlikes t_mem t_row t_strain v1 v2 v3 r8 w9 w10 w11 w12 w13 hr7) kmX8_weakest kvX8_weakest lm_X8_309 ⟨rfl, rfl⟩ ⟨Nat.le_of_ble_eq_true rfl, Nat.le_of_ble_eq_true rfl⟩ (rwV (q0 := 0) (ci := 7) hG (hP.sub [0, 1, 2, 3] rfl) (hD.sub [0, 1, 2, 3] (by decide) rfl) hAb hb0 hS hP rfl rfl) rfl rfl (Nat.le_of_ble_eq_true rfl) dX8_frailSet_20 ⟨Nat.le_of_ble_eq_true rfl, Nat.le_of_ble_eq_true rfl⟩) hP hD hS hA [0, 1, 2, 3] [] rfl rfl (by decide) (by decide) (fun _ => rfl) (fun u14 H locs hP hD hS => ?_)
      have hG := hGk hS
      refine lv_goto (tgt := 28) hx hb dX8_frailSet_23 (by decide) ?_
      exact hrt (fun _ => 0) _ _ r8 w9 w10 w11 w12 w13 _ _ dX8_frailSet_28 h (hP.sub [0, 1, 2, 3] rfl) (hD.sub [0, 1, 2, 3] (by decide) rfl) hS
-- X8_carries
theorem dX8_carries_0 : decode cX8_carries 0 = .ok (.aload_n 0, 1) := by decide +kernel
theorem dX8_carries_1 : decode cX8_carries 1 = .ok (.invokevirtual 236, 3) := by decide +kernel
theorem dX8_carries_4 : decode cX8_carries 4 = .ok (.ifCond .eq 13, 3) := by decide +kernel
theorem dX8_carries_7 : decode cX8_carries 7 = .ok (.iload_n 1, 1) := by decide +kernel
theorem dX8_carries_8 : decode cX8_carries 8 = .ok (.i2l, 1) := by decide +kernel
theorem dX8_carries_9 : decode cX8_carries 9 = .ok (.lconst 0, 1) := by decide +kernel
theorem dX8_carries_10 : decode cX8_carries 10 = .ok (.lconst 1, 1) := by decide +kernel
theorem dX8_carries_11 : decode cX8_carries 11 = .ok (.invokestatic 83, 3) := by decide +kernel
theorem dX8_carries_14 : decode cX8_carries 14 = .ok (.ifCond .ne 6, 3) := by decide +kernel
theorem dX8_carries_17 : decode cX8_carries 17 = .ok (.bipush (-2), 2) := by decide +kernel
theorem dX8_carries_19 : decode cX8_carries 19 = .ok (.ireturn, 1) := by decide +kernel
theorem dX8_carries_20 : decode cX8_carries 20 = .ok (.aload_n 0, 1) := by decide +kernel
theorem dX8_carries_21 : decode cX8_carries 21 = .ok (.invokevirtual 243, 3) := by decide +kernel
theorem dX8_carries_24 : decode cX8_carries 24 = .ok (.aload_n 0, 1) := by decide +kernel
theorem dX8_carries_25 : decode cX8_carries 25 = .ok (.iconst 0, 1) := by decide +kernel
theorem dX8_carries_26 : decode cX8_carries 26 = .ok (.invokevirtual 260, 3) := by decide +kernel
theorem dX8_carries_29 : decode cX8_carries 29 = .ok (.lconst 0, 1) := by decide +kernel
theorem dX8_carries_30 : decode cX8_carries 30 = .ok (.lcmp, 1) := by decide +kernel
theorem dX8_carries_31 : decode cX8_carries 31 = .ok (.ifCond .ne 5, 3) := by decide +kernel
theorem dX8_carries_34 : decode cX8_carries 34 = .ok (.iconst (-1), 1) := by decide +kernel
theorem dX8_carries_35 : decode cX8_carries 35 = .ok (.ireturn, 1) := by decide +kernel
theorem dX8_carries_36 : decode cX8_carries 36 = .ok (.sipush 999, 3) := by decide +kernel
theorem dX8_carries_39 : decode cX8_carries 39 = .ok (.istore_n 2, 1) := by decide +kernel
theorem dX8_carries_40 : decode cX8_carries 40 = .ok (.aload_n 0, 1) := by decide +kernel
theorem dX8_carries_41 : decode cX8_carries 41 = .ok (.iload_n 1, 1) := by decide +kernel
theorem dX8_carries_42 : decode cX8_carries 42 = .ok (.ifCond .ne 8, 3) := by decide +kernel
theorem dX8_carries_45 : decode cX8_carries 45 = .ok (.iload_n 2, 1) := by decide +kernel
theorem dX8_carries_46 : decode cX8_carries 46 = .ok (.i2l, 1) := by decide +kernel
theorem dX8_carries_47 : decode cX8_carries 47 = .ok (.goto 4, 3) := by decide +kernel
theorem dX8_carries_50 : decode cX8_carries 50 = .ok (.lconst 0, 1) := by decide +kernel
theorem dX8_carries_51 : decode cX8_carries 51 = .ok (.iload_n 1, 1) := by decide +kernel
theorem dX8_carries_52 : decode cX8_carries 52 = .ok (.iconst 1, 1) := by decide +kernel
theorem dX8_carries_53 : decode cX8_carries 53 = .ok (.if_icmp .ne 8, 3) := by decide +kernel
theorem dX8_carries_56 : decode cX8_carries 56 = .ok (.iload_n 2, 1) := by decide +kernel
theorem dX8_carries_57 : decode cX8_carries 57 = .ok (.i2l, 1) := by decide +kernel
theorem dX8_carries_58 : decode cX8_carries 58 = .ok (.goto 4, 3) := by decide +kernel
theorem dX8_carries_61 : decode cX8_carries 61 = .ok (.lconst 0, 1) := by decide +kernel
theorem dX8_carries_62 : decode cX8_carries 62 = .ok (.lconst 0, 1) := by decide +kernel
theorem dX8_carries_63 : decode cX8_carries 63 = .ok (.invokevirtual 300, 3) := by decide +kernel
theorem dX8_carries_66 : decode cX8_carries 66 = .ok (.ifCond .ne 9, 3) := by decide +kernel
theorem dX8_carries_69 : decode cX8_carries 69 = .ok (.iinc 2 (-1), 3) := by decide +kernel
theorem dX8_carries_72 : decode cX8_carries 72 = .ok (.goto (-32), 3) := by decide +kernel
theorem dX8_carries_75 : decode cX8_carries 75 = .ok (.iload_n 2, 1) := by decide +kernel
theorem dX8_carries_76 : decode cX8_carries 76 = .ok (.ireturn, 1) := by decide +kernel
noncomputable def fX8_carries_62 (k40 : (Nat → Int32) → (Nat → Int32) → Int32 → Int32 → (Nat → Int64) → Int64 → Int32 → Int32 → Option (Int32 × (Nat → Int32) × Int32 × Int32 × (Nat → Int64) × Int64)) (t_mem : Nat → Int32) (t_row : Nat → Int32) (t_wide : Int32) (t_lost : Int32) (t_strain : Nat → Int64) (t_det : Int64) (v1 : Int32) (v2 : Int32) (z1 : Int64) (z2 : Int64) : Option (Int32 × (Nat → Int32) × Int32 × Int32 × (Nat → Int64) × Int64) := ob3 (fX8_isWithin t_mem t_row t_wide t_lost t_strain t_det z1 z2 0) fun r18 w19 w20 => (if r18 = 0 then k40 t_mem t_row t_wide t_lost w19 w20 v1 (v2 + (-1)) else some (v2, t_row, t_wide, t_lost, w19, w20))
noncomputable def fX8_carries_51 (k40 : (Nat → Int32) → (Nat → Int32) → Int32 → Int32 → (Nat → Int64) → Int64 → Int32 → Int32 → Option (Int32 × (Nat → Int32) × Int32 × Int32 × (Nat → Int64) × Int64)) (t_mem : Nat → Int32) (t_row : Nat → Int32) (t_wide : Int32) (t_lost : Int32) (t_strain : Nat → Int64) (t_det : Int64) (v1 : Int32) (v2 : Int32) (z1 : Int64) : Option (Int32 × (Nat → Int32) × Int32 × Int32 × (Nat → Int64) × Int64) := (if v1 = 1 then fX8_carries_62 k40 t_mem t_row t_wide t_lost t_strain t_det v1 v2 z1 v2.toInt64 else fX8_carries_62 k40 t_mem t_row t_wide t_lost t_strain t_det v1 v2 z1 0)
noncomputable def fX8_carries_40  : Nat → (Nat → Int32) → (Nat → Int32) → Int32 → Int32 → (Nat → Int64) → Int64 → Int32 → Int32 → Option (Int32 × (Nat → Int32) × Int32 × Int32 × (Nat → Int64) × Int64)
  | 0, _, _, _, _, _, _, _, _ => none
  | n + 1, t_mem, t_row, t_wide, t_lost, t_strain, t_det, v1, v2 => (if v1 = 0 then fX8_carries_51 (fX8_carries_40 n) t_mem t_row t_wide t_lost t_strain t_det v1 v2 v2.toInt64 else fX8_carries_51 (fX8_carries_40 n) t_mem t_row t_wide t_lost t_strain t_det v1 v2 0)
theorem fX8_carries_40_z  (t_mem : Nat → Int32) (t_row : Nat → Int32) (t_wide : Int32) (t_lost : Int32) (t_strain : Nat → Int64) (t_det : Int64) (v1 : Int32) (v2 : Int32) : fX8_carries_40  0 t_mem t_row t_wide t_lost t_strain t_det v1 v2 = none := rfl
theorem fX8_carries_40_s  (n : Nat) (t_mem : Nat → Int32) (t_row : Nat → Int32) (t_wide : Int32) (t_lost : Int32) (t_strain : Nat → Int64) (t_det : Int64) (v1 : Int32) (v2 : Int32) : fX8_carries_40  (n + 1) t_mem t_row t_wide t_lost t_strain t_det v1 v2 = (if v1 = 0 then fX8_carries_51 (fX8_carries_40 n) t_mem t_row t_wide t_lost t_strain t_det v1 v2 v2.toInt64 else fX8_carries_51 (fX8_carries_40 n) t_mem t_row t_wide t_lost t_strain t_det v1 v2 0) := rfl
noncomputable def fX8_carries  (t_mem : Nat → Int32) (t_row : Nat → Int32) (t_wide : Int32) (t_lost : Int32) (t_strain : Nat → Int64) (t_det : Int64) (v1 : Int32) : Option (Int32 × (Nat → Int32) × Int32 × Int32 × (Nat → Int64) × Int64) := (fX8_is t_mem).bind fun r1 => (if r1 = 0 then some ((-2), t_row, t_wide, t_lost, t_strain, t_det) else (if (fX8_in v1.toInt64 0 1) = 0 then some ((-2), t_row, t_wide, t_lost, t_strain, t_det) else ob3 (fX8_laysPlate t_mem t_row t_wide t_lost) fun w8 w9 w10 => (fX8_detOf t_mem w8 w9 w10 0).bind fun r12 => (if (lg_cmp r12 0) = 0 then some ((-1), w8, w9, w10, t_strain, t_det) else fX8_carries_40 FU t_mem w8 w9 w10 t_strain t_det v1 999)))
set_option maxHeartbeats 4000000 in
set_option maxRecDepth 100000 in
theorem ctX8_carries (l : Launch) (g : GT) (sz : Nat) (a_t : Nat → Nat) (t_acted : Int32) (t_taped : Int32) (t_faultKind : Int32) (t_faultPlace : Int32) (t_at : Int32) (t_begin : Int32) (t_token : Int32) (t_value : Int32) (t_bad : Int32) (t_wide : Int32) (t_lost : Int32) (t_det : Int64) (t_mask : Int32) (t_mode : Int32) (t_wanted : Int32) (t_orders : Int32) (t_foundAt : Int32) (t_foundBy : Int64) (t_unlikes : Int32) (t_mem : Nat → Int32) (t_row : Nat → Int32) (t_strain : Nat → Int64) (v1 : Int32) (o : Int32) (o_t_row : Nat → Int32) (o_t_wide : Int32) (o_t_lost : Int32) (o_t_strain : Nat → Int64) (o_t_det : Int64) (h : fX8_carries t_mem t_row t_wide t_lost t_strain t_det v1 = some (o, o_t_row, o_t_wide, o_t_lost, o_t_strain, o_t_det)) : Met l yX8_carries (Cond.code yX8_carries cX8_carries 3 (some .int) :: Tw) ⟨6, 0, 0, 161⟩ (va_Pc [.ref ((a_t 0)), .int v1] (rwB g [((a_t 0), .inr (7, [.ref (a_t 1), .ref (a_t 2), .int t_acted, .ref (a_t 4), .ref (a_t 5), .ref (a_t 6), .ref (a_t 7), .ref (a_t 8), .ref (a_t 9), .int t_taped, .int t_faultKind, .int t_faultPlace, .int t_at, .int t_begin, .int t_token, .int t_value, .int t_bad, .ref (a_t 18), .ref (a_t 19), .ref (a_t 20), .int t_wide, .int t_lost, .ref (a_t 23), .long t_det, .ref (a_t 25), .int t_mask, .int t_mode, .int t_wanted, .int t_orders, .int t_foundAt, .long t_foundBy, .ref (a_t 32), .ref (a_t 33), .int t_unlikes, .ref (a_t 35), .ref (a_t 36)])), ((a_t 1), .inl (g.2.2.1 0, 27, .inl t_mem)), ((a_t 20), .inl (g.2.2.1 0, 8, .inl t_row)), ((a_t 23), .inl (g.2.2.1 1, 3, .inr (.inl t_strain)))] sz)) (va_Qi (fun x (_ : Nat → Nat) => x = o) (fun u => rwE g (va_A [((a_t 0), .inr (7, [.ref (a_t 1), .ref (a_t 2), .int t_acted, .ref (a_t 4), .ref (a_t 5), .ref (a_t 6), .ref (a_t 7), .ref (a_t 8), .ref (a_t 9), .int t_taped, .int t_faultKind, .int t_faultPlace, .int t_at, .int t_begin, .int t_token, .int t_value, .int t_bad, .ref (a_t 18), .ref (a_t 19), .ref (a_t 20), .int t_wide, .int t_lost, .ref (a_t 23), .long t_det, .ref (a_t 25), .int t_mask, .int t_mode, .int t_wanted, .int t_orders, .int t_foundAt, .long t_foundBy, .ref (a_t 32), .ref (a_t 33), .int t_unlikes, .ref (a_t 35), .ref (a_t 36)])), ((a_t 1), .inl (g.2.2.1 0, 27, .inl t_mem)), ((a_t 20), .inl (g.2.2.1 0, 8, .inl t_row)), ((a_t 23), .inl (g.2.2.1 1, 3, .inr (.inl t_strain)))] sz) [((a_t 0), .inr (7, [.ref (a_t 1), .ref (a_t 2), .int t_acted, .ref (a_t 4), .ref (a_t 5), .ref (a_t 6), .ref (a_t 7), .ref (a_t 8), .ref (a_t 9), .int t_taped, .int t_faultKind, .int t_faultPlace, .int t_at, .int t_begin, .int t_token, .int t_value, .int t_bad, .ref (a_t 18), .ref (a_t 19), .ref (a_t 20), .int o_t_wide, .int o_t_lost, .ref (a_t 23), .long o_t_det, .ref (a_t 25), .int t_mask, .int t_mode, .int t_wanted, .int t_orders, .int t_foundAt, .long t_foundBy, .ref (a_t 32), .ref (a_t 33), .int t_unlikes, .ref (a_t 35), .ref (a_t 36)])), ((a_t 1), .inl (g.2.2.1 0, 27, .inl t_mem)), ((a_t 20), .inl (g.2.2.1 0, 8, .inl o_t_row)), ((a_t 23), .inl (g.2.2.1 1, 3, .inr (.inl o_t_strain)))]) (va_A [((a_t 0), .inr (7, [.ref (a_t 1), .ref (a_t 2), .int t_acted, .ref (a_t 4), .ref (a_t 5), .ref (a_t 6), .ref (a_t 7), .ref (a_t 8), .ref (a_t 9), .int t_taped, .int t_faultKind, .int t_faultPlace, .int t_at, .int t_begin, .int t_token, .int t_value, .int t_bad, .ref (a_t 18), .ref (a_t 19), .ref (a_t 20), .int t_wide, .int t_lost, .ref (a_t 23), .long t_det, .ref (a_t 25), .int t_mask, .int t_mode, .int t_wanted, .int t_orders, .int t_foundAt, .long t_foundBy, .ref (a_t 32), .ref (a_t 33), .int t_unlikes, .ref (a_t 35), .ref (a_t 36)])), ((a_t 1), .inl (g.2.2.1 0, 27, .inl t_mem)), ((a_t 20), .inl (g.2.2.1 0, 8, .inl t_row)), ((a_t 23), .inl (g.2.2.1 1, 3, .inr (.inl t_strain)))] sz)) 0 0 (va_A [((a_t 0), .inr (7, [.ref (a_t 1), .ref (a_t 2), .int t_acted, .ref (a_t 4), .ref (a_t 5), .ref (a_t 6), .ref (a_t 7), .ref (a_t 8), .ref (a_t 9), .int t_taped, .int t_faultKind, .int t_faultPlace, .int t_at, .int t_begin, .int t_token, .int t_value, .int t_bad, .ref (a_t 18), .ref (a_t 19), .ref (a_t 20), .int t_wide, .int t_lost, .ref (a_t 23), .long t_det, .ref (a_t 25), .int t_mask, .int t_mode, .int t_wanted, .int t_orders, .int t_foundAt, .long t_foundBy, .ref (a_t 32), .ref (a_t 33), .int t_unlikes, .ref (a_t 35), .ref (a_t 36)])), ((a_t 1), .inl (g.2.2.1 0, 27, .inl t_mem)), ((a_t 20), .inl (g.2.2.1 0, 8, .inl t_row)), ((a_t 23), .inl (g.2.2.1 1, 3, .inr (.inl t_strain)))] sz) := by
  refine rw_meti (by decide) (Nat.le_of_ble_eq_true rfl) (lv0 := [(0, .ref ((a_t 0))), (1, .int v1)]) rfl ?_
  intro p e s m args below meth c ls Q A cx hret hG hAb hb0 hA hP hD hl
  have hx := cx.1
  have hb := cx.2.1
  have hG0 := hG
  have hGk : ∀ {H : Heap} {locs : List Loc}, va_S A s.heap H locs → GE g s H := fun hS => hG0.keptS hAb hS
  have hSb : ∀ {H : Heap} {locs : List Loc}, va_S A s.heap H locs → va_S (fun a => g.1 ≤ a) s.heap H locs := fun hS => ⟨hS.1, fun q h1 h2 => hS.2.1 q h1 (fun z => h2 (hAb q z)), fun l hl => hAb _ (hS.2.2 l hl)⟩
  have hS : va_S A s.heap s.heap [] := va_S.rf
  have hrt : ∀ (u : Nat → Nat) (pc : Nat) (ls : Array Slot) (v : Int32) (x_t_row : Nat → Int32) (x_t_wide : Int32) (x_t_lost : Int32) (x_t_strain : Nat → Int64) (x_t_det : Int64) (H : Heap) (locs : List Loc), decode cX8_carries pc = .ok (.ireturn, 1) → some (v, x_t_row, x_t_wide, x_t_lost, x_t_strain, x_t_det) = some (o, o_t_row, o_t_wide, o_t_lost, o_t_strain, o_t_det) → va_P g.2.1 vwCl [((a_t 0), .inr (7, [.ref (a_t 1), .ref (a_t 2), .int t_acted, .ref (a_t 4), .ref (a_t 5), .ref (a_t 6), .ref (a_t 7), .ref (a_t 8), .ref (a_t 9), .int t_taped, .int t_faultKind, .int t_faultPlace, .int t_at, .int t_begin, .int t_token, .int t_value, .int t_bad, .ref (a_t 18), .ref (a_t 19), .ref (a_t 20), .int x_t_wide, .int x_t_lost, .ref (a_t 23), .long x_t_det, .ref (a_t 25), .int t_mask, .int t_mode, .int t_wanted, .int t_orders, .int t_foundAt, .long t_foundBy, .ref (a_t 32), .ref (a_t 33), .int t_unlikes, .ref (a_t 35), .ref (a_t 36)])), ((a_t 1), .inl (g.2.2.1 0, 27, .inl t_mem)), ((a_t 20), .inl (g.2.2.1 0, 8, .inl x_t_row)), ((a_t 23), .inl (g.2.2.1 1, 3, .inr (.inl x_t_strain)))] H → va_D A [((a_t 0), .inr (7, [.ref (a_t 1), .ref (a_t 2), .int t_acted, .ref (a_t 4), .ref (a_t 5), .ref (a_t 6), .ref (a_t 7), .ref (a_t 8), .ref (a_t 9), .int t_taped, .int t_faultKind, .int t_faultPlace, .int t_at, .int t_begin, .int t_token, .int t_value, .int t_bad, .ref (a_t 18), .ref (a_t 19), .ref (a_t 20), .int x_t_wide, .int x_t_lost, .ref (a_t 23), .long x_t_det, .ref (a_t 25), .int t_mask, .int t_mode, .int t_wanted, .int t_orders, .int t_foundAt, .long t_foundBy, .ref (a_t 32), .ref (a_t 33), .int t_unlikes, .ref (a_t 35), .ref (a_t 36)])), ((a_t 1), .inl (g.2.2.1 0, 27, .inl t_mem)), ((a_t 20), .inl (g.2.2.1 0, 8, .inl x_t_row)), ((a_t 23), .inl (g.2.2.1 1, 3, .inr (.inl x_t_strain)))] → va_S A s.heap H locs → W p l e ⟨6, 0, 0, 161⟩ s m args below meth c H locs 0 0 Q (F0 m pc ls [.int v]) := by
    intro u pc ls v x_t_row x_t_wide x_t_lost x_t_strain x_t_det H locs hd h hP hD hS
    cases h
    exact hret u _ _ _ _ _ hd rfl hP hD hS
  have w62 : ∀ (k40 : (Nat → Int32) → (Nat → Int32) → Int32 → Int32 → (Nat → Int64) → Int64 → Int32 → Int32 → Option (Int32 × (Nat → Int32) × Int32 × Int32 × (Nat → Int64) × Int64)) (hk40 : ∀ (t_row : Nat → Int32) (t_wide : Int32) (t_lost : Int32) (t_strain : Nat → Int64) (t_det : Int64) (v1 : Int32) (v2 : Int32) (H : Heap) (locs : List Loc), va_P g.2.1 vwCl [((a_t 0), .inr (7, [.ref (a_t 1), .ref (a_t 2), .int t_acted, .ref (a_t 4), .ref (a_t 5), .ref (a_t 6), .ref (a_t 7), .ref (a_t 8), .ref (a_t 9), .int t_taped, .int t_faultKind, .int t_faultPlace, .int t_at, .int t_begin, .int t_token, .int t_value, .int t_bad, .ref (a_t 18), .ref (a_t 19), .ref (a_t 20), .int t_wide, .int t_lost, .ref (a_t 23), .long t_det, .ref (a_t 25), .int t_mask, .int t_mode, .int t_wanted, .int t_orders, .int t_foundAt, .long t_foundBy, .ref (a_t 32), .ref (a_t 33), .int t_unlikes, .ref (a_t 35), .ref (a_t 36)])), ((a_t 1), .inl (g.2.2.1 0, 27, .inl t_mem)), ((a_t 20), .inl (g.2.2.1 0, 8, .inl t_row)), ((a_t 23), .inl (g.2.2.1 1, 3, .inr (.inl t_strain)))] H → va_D A [((a_t 0), .inr (7, [.ref (a_t 1), .ref (a_t 2), .int t_acted, .ref (a_t 4), .ref (a_t 5), .ref (a_t 6), .ref (a_t 7), .ref (a_t 8), .ref (a_t 9), .int t_taped, .int t_faultKind, .int t_faultPlace, .int t_at, .int t_begin, .int t_token, .int t_value, .int t_bad, .ref (a_t 18), .ref (a_t 19), .ref (a_t 20), .int t_wide, .int t_lost, .ref (a_t 23), .long t_det, .ref (a_t 25), .int t_mask, .int t_mode, .int t_wanted, .int t_orders, .int t_foundAt, .long t_foundBy, .ref (a_t 32), .ref (a_t 33), .int t_unlikes, .ref (a_t 35), .ref (a_t 36)])), ((a_t 1), .inl (g.2.2.1 0, 27, .inl t_mem)), ((a_t 20), .inl (g.2.2.1 0, 8, .inl t_row)), ((a_t 23), .inl (g.2.2.1 1, 3, .inr (.inl t_strain)))] → va_S A s.heap H locs → ∀ (ls : Array Slot), lv_has ls 3 [(0, .ref ((a_t 0))), (1, .int v1), (2, .int v2)] → k40 t_mem t_row t_wide t_lost t_strain t_det v1 v2 = some (o, o_t_row, o_t_wide, o_t_lost, o_t_strain, o_t_det) → W p l e ⟨6, 0, 0, 161⟩ s m args below meth c H locs 0 0 Q (F0 m 40 ls [])) (t_row : Nat → Int32) (t_wide : Int32) (t_lost : Int32) (t_strain : Nat → Int64) (t_det : Int64) (v1 : Int32) (v2 : Int32) (z1 : Int64) (z2 : Int64) (H : Heap) (locs : List Loc), va_P g.2.1 vwCl [((a_t 0), .inr (7, [.ref (a_t 1), .ref (a_t 2), .int t_acted, .ref (a_t 4), .ref (a_t 5), .ref (a_t 6), .ref (a_t 7), .ref (a_t 8), .ref (a_t 9), .int t_taped, .int t_faultKind, .int t_faultPlace, .int t_at, .int t_begin, .int t_token, .int t_value, .int t_bad, .ref (a_t 18), .ref (a_t 19), .ref (a_t 20), .int t_wide, .int t_lost, .ref (a_t 23), .long t_det, .ref (a_t 25), .int t_mask, .int t_mode, .int t_wanted, .int t_orders, .int t_foundAt, .long t_foundBy, .ref (a_t 32), .ref (a_t 33), .int t_unlikes, .ref (a_t 35), .ref (a_t 36)])), ((a_t 1), .inl (g.2.2.1 0, 27, .inl t_mem)), ((a_t 20), .inl (g.2.2.1 0, 8, .inl t_row)), ((a_t 23), .inl (g.2.2.1 1, 3, .inr (.inl t_strain)))] H → va_D A [((a_t 0), .inr (7, [.ref (a_t 1), .ref (a_t 2), .int t_acted, .ref (a_t 4), .ref (a_t 5), .ref (a_t 6), .ref (a_t 7), .ref (a_t 8), .ref (a_t 9), .int t_taped, .int t_faultKind, .int t_faultPlace, .int t_at, .int t_begin, .int t_token, .int t_value, .int t_bad, .ref (a_t 18), .ref (a_t 19), .ref (a_t 20), .int t_wide, .int t_lost, .ref (a_t 23), .long t_det, .ref (a_t 25), .int t_mask, .int t_mode, .int t_wanted, .int t_orders, .int t_foundAt, .long t_foundBy, .ref (a_t 32), .ref (a_t 33), .int t_unlikes, .ref (a_t 35), .ref (a_t 36)])), ((a_t 1), .inl (g.2.2.1 0, 27, .inl t_mem)), ((a_t 20), .inl (g.2.2.1 0, 8, .inl t_row)), ((a_t 23), .inl (g.2.2.1 1, 3, .inr (.inl t_strain)))] → va_S A s.heap H locs → ∀ (ls : Array Slot), lv_has ls 3 [(0, .ref ((a_t 0))), (1, .int v1), (2, .int v2)] → fX8_carries_62 k40 t_mem t_row t_wide t_lost t_strain t_det v1 v2 z1 z2 = some (o, o_t_row, o_t_wide, o_t_lost, o_t_strain, o_t_det) → W p l e ⟨6, 0, 0, 161⟩ s m args below meth c H locs 0 0 Q (F0 m 62 ls [.long z2, .long z1, .ref ((a_t 0))]) := by
    intro k40 hk40 t_row t_wide t_lost t_strain t_det v1 v2 z1 z2 H locs hP hD hS ls hl h
    unfold fX8_carries_62 at h
    have hG := hGk hS
    refine lv_lconst (v := 0) hx hb dX8_carries_62 (by decide) ?_
    obtain ⟨r18, w19, w20, hr17, h⟩ := ob3_out h
    refine rw_z (WN := fun u21 => [((a_t 0), .inr (7, [.ref (a_t 1), .ref (a_t 2), .int t_acted, .ref (a_t 4), .ref (a_t 5), .ref (a_t 6), .ref (a_t 7), .ref (a_t 8), .ref (a_t 9), .int t_taped, .int t_faultKind, .int t_faultPlace, .int t_at, .int t_begin, .int t_token, .int t_value, .int t_bad, .ref (a_t 18), .ref (a_t 19), .ref (a_t 20), .int t_wide, .int t_lost, .ref (a_t 23), .long w20, .ref (a_t 25), .int t_mask, .int t_mode, .int t_wanted, .int t_orders, .int t_foundAt, .long t_foundBy, .ref (a_t 32), .ref (a_t 33), .int t_unlikes, .ref (a_t 35), .ref (a_t 36)])), ((a_t 1), .inl (g.2.2.1 0, 27, .inl t_mem)), ((a_t 20), .inl (g.2.2.1 0, 8, .inl t_row)), ((a_t 23), .inl (g.2.2.1 1, 3, .inr (.inl w19)))]) (wr := []) (runV (As := [.long z1, .long z2, .long (0)]) (rest := []) cx hl.1 (ctX8_isWithin l g H.size a_t t_acted t_taped t_faultKind t_faultPlace t_at t_begin t_token t_value t_bad t_wide t_lost t_det t_mask t_mode t_wanted t_orders t_foundAt t_foundBy t_unlikes t_mem t_row t_strain z1 z2 (0) r18 w19 w20 hr17) kmX8_isWithin kvX8_isWithin lm_X8_300 ⟨rfl, rfl⟩ ⟨Nat.le_of_ble_eq_true rfl, Nat.le_of_ble_eq_true rfl⟩ (rwV (q0 := 0) (ci := 7) hG (hP.sub [0, 1, 2, 3] rfl) (hD.sub [0, 1, 2, 3] (by decide) rfl) hAb hb0 hS hP rfl rfl) rfl rfl (Nat.le_of_ble_eq_true rfl) dX8_carries_63 ⟨Nat.le_of_ble_eq_true rfl, Nat.le_of_ble_eq_true rfl⟩) hP hD hS hA [0, 1, 2, 3] [] rfl rfl (by decide) (by decide) (fun _ => rfl) (fun hz22 u21 H locs hP hD hS => ?_)
    have hG := hGk hS
    refine lv_if_ne (tgt := 75) hx hb dX8_carries_66 (by decide) (fun c23 => ?_) (fun c23 => ?_)
    · have h := itn c23 h
      refine lv_iload_n hx hb dX8_carries_75 rfl (lv_at hl 2 rfl) ?_
      exact hrt (fun _ => 0) _ _ v2 t_row t_wide t_lost w19 w20 _ _ dX8_carries_76 h (hP.sub [0, 1, 2, 3] rfl) (hD.sub [0, 1, 2, 3] (by decide) rfl) hS
    · have h := itp c23 h
      refine lv_iinc (v := v2 + (-1)) (lv' := [(2, .int (v2 + (-1))), (0, .ref ((a_t 0))), (1, .int v1)]) hx hb dX8_carries_69 hl (k := 2) rfl rfl (by decide) rfl (fun ls hl => ?_)
      refine lv_goto (tgt := 40) hx hb dX8_carries_72 (by decide) ?_
      exact hk40 t_row t_wide t_lost w19 w20 v1 (v2 + (-1)) _ _ hP hD hS _ (lv_sub hl [1, 2, 0] rfl) h
  have w51 : ∀ (k40 : (Nat → Int32) → (Nat → Int32) → Int32 → Int32 → (Nat → Int64) → Int64 → Int32 → Int32 → Option (Int32 × (Nat → Int32) × Int32 × Int32 × (Nat → Int64) × Int64)) (hk40 : ∀ (t_row : Nat → Int32) (t_wide : Int32) (t_lost : Int32) (t_strain : Nat → Int64) (t_det : Int64) (v1 : Int32) (v2 : Int32) (H : Heap) (locs : List Loc), va_P g.2.1 vwCl [((a_t 0), .inr (7, [.ref (a_t 1), .ref (a_t 2), .int t_acted, .ref (a_t 4), .ref (a_t 5), .ref (a_t 6), .ref (a_t 7), .ref (a_t 8), .ref (a_t 9), .int t_taped, .int t_faultKind, .int t_faultPlace, .int t_at, .int t_begin, .int t_token, .int t_value, .int t_bad, .ref (a_t 18), .ref (a_t 19), .ref (a_t 20), .int t_wide, .int t_lost, .ref (a_t 23), .long t_det, .ref (a_t 25), .int t_mask, .int t_mode, .int t_wanted, .int t_orders, .int t_foundAt, .long t_foundBy, .ref (a_t 32), .ref (a_t 33), .int t_unlikes, .ref (a_t 35), .ref (a_t 36)])), ((a_t 1), .inl (g.2.2.1 0, 27, .inl t_mem)), ((a_t 20), .inl (g.2.2.1 0, 8, .inl t_row)), ((a_t 23), .inl (g.2.2.1 1, 3, .inr (.inl t_strain)))] H → va_D A [((a_t 0), .inr (7, [.ref (a_t 1), .ref (a_t 2), .int t_acted, .ref (a_t 4), .ref (a_t 5), .ref (a_t 6), .ref (a_t 7), .ref (a_t 8), .ref (a_t 9), .int t_taped, .int t_faultKind, .int t_faultPlace, .int t_at, .int t_begin, .int t_token, .int t_value, .int t_bad, .ref (a_t 18), .ref (a_t 19), .ref (a_t 20), .int t_wide, .int t_lost, .ref (a_t 23), .long t_det, .ref (a_t 25), .int t_mask, .int t_mode, .int t_wanted, .int t_orders, .int t_foundAt, .long t_foundBy, .ref (a_t 32), .ref (a_t 33), .int t_unlikes, .ref (a_t 35), .ref (a_t 36)])), ((a_t 1), .inl (g.2.2.1 0, 27, .inl t_mem)), ((a_t 20), .inl (g.2.2.1 0, 8, .inl t_row)), ((a_t 23), .inl (g.2.2.1 1, 3, .inr (.inl t_strain)))] → va_S A s.heap H locs → ∀ (ls : Array Slot), lv_has ls 3 [(0, .ref ((a_t 0))), (1, .int v1), (2, .int v2)] → k40 t_mem t_row t_wide t_lost t_strain t_det v1 v2 = some (o, o_t_row, o_t_wide, o_t_lost, o_t_strain, o_t_det) → W p l e ⟨6, 0, 0, 161⟩ s m args below meth c H locs 0 0 Q (F0 m 40 ls [])) (t_row : Nat → Int32) (t_wide : Int32) (t_lost : Int32) (t_strain : Nat → Int64) (t_det : Int64) (v1 : Int32) (v2 : Int32) (z1 : Int64) (H : Heap) (locs : List Loc), va_P g.2.1 vwCl [((a_t 0), .inr (7, [.ref (a_t 1), .ref (a_t 2), .int t_acted, .ref (a_t 4), .ref (a_t 5), .ref (a_t 6), .ref (a_t 7), .ref (a_t 8), .ref (a_t 9), .int t_taped, .int t_faultKind, .int t_faultPlace, .int t_at, .int t_begin, .int t_token, .int t_value, .int t_bad, .ref (a_t 18), .ref (a_t 19), .ref (a_t 20), .int t_wide, .int t_lost, .ref (a_t 23), .long t_det, .ref (a_t 25), .int t_mask, .int t_mode, .int t_wanted, .int t_orders, .int t_foundAt, .long t_foundBy, .ref (a_t 32), .ref (a_t 33), .int t_unlikes, .ref (a_t 35), .ref (a_t 36)])), ((a_t 1), .inl (g.2.2.1 0, 27, .inl t_mem)), ((a_t 20), .inl (g.2.2.1 0, 8, .inl t_row)), ((a_t 23), .inl (g.2.2.1 1, 3, .inr (.inl t_strain)))] H → va_D A [((a_t 0), .inr (7, [.ref (a_t 1), .ref (a_t 2), .int t_acted, .ref (a_t 4), .ref (a_t 5), .ref (a_t 6), .ref (a_t 7), .ref (a_t 8), .ref (a_t 9), .int t_taped, .int t_faultKind, .int t_faultPlace, .int t_at, .int t_begin, .int t_token, .int t_value, .int t_bad, .ref (a_t 18), .ref (a_t 19), .ref (a_t 20), .int t_wide, .int t_lost, .ref (a_t 23), .long t_det, .ref (a_t 25), .int t_mask, .int t_mode, .int t_wanted, .int t_orders, .int t_foundAt, .long t_foundBy, .ref (a_t 32), .ref (a_t 33), .int t_unlikes, .ref (a_t 35), .ref (a_t 36)])), ((a_t 1), .inl (g.2.2.1 0, 27, .inl t_mem)), ((a_t 20), .inl (g.2.2.1 0, 8, .inl t_row)), ((a_t 23), .inl (g.2.2.1 1, 3, .inr (.inl t_strain)))] → va_S A s.heap H locs → ∀ (ls : Array Slot), lv_has ls 3 [(0, .ref ((a_t 0))), (1, .int v1), (2, .int v2)] → fX8_carries_51 k40 t_mem t_row t_wide t_lost t_strain t_det v1 v2 z1 = some (o, o_t_row, o_t_wide, o_t_lost, o_t_strain, o_t_det) → W p l e ⟨6, 0, 0, 161⟩ s m args below meth c H locs 0 0 Q (F0 m 51 ls [.long z1, .ref ((a_t 0))]) := by
    intro k40 hk40 t_row t_wide t_lost t_strain t_det v1 v2 z1 H locs hP hD hS ls hl h
    unfold fX8_carries_51 at h
    have hG := hGk hS
    refine lv_iload_n hx hb dX8_carries_51 rfl (lv_at hl 1 rfl) ?_
    refine lv_iconst (v := 1) hx hb dX8_carries_52 (by decide) ?_
    refine lv_icmp_ne (tgt := 61) hx hb dX8_carries_53 (by decide) (fun c16 => ?_) (fun c16 => ?_)
    · have h := itn c16 h
      refine lv_lconst (v := 0) hx hb dX8_carries_61 (by decide) ?_
      exact w62 _ hk40 t_row t_wide t_lost t_strain t_det v1 v2 z1 0 _ _ hP hD hS _ (lv_sub hl [0, 1, 2] rfl) h
    · have h := itp c16 h
      refine lv_iload_n hx hb dX8_carries_56 rfl (lv_at hl 2 rfl) ?_
      refine lv_i2l (v := v2.toInt64) hx hb dX8_carries_57 rfl ?_
      refine lv_goto (tgt := 62) hx hb dX8_carries_58 (by decide) ?_
      exact w62 _ hk40 t_row t_wide t_lost t_strain t_det v1 v2 z1 v2.toInt64 _ _ hP hD hS _ (lv_sub hl [0, 1, 2] rfl) h
  have w40 : ∀ (n : Nat) (t_row : Nat → Int32) (t_wide : Int32) (t_lost : Int32) (t_strain : Nat → Int64) (t_det : Int64) (v1 : Int32) (v2 : Int32) (H : Heap) (locs : List Loc), va_P g.2.1 vwCl [((a_t 0), .inr (7, [.ref (a_t 1), .ref (a_t 2), .int t_acted, .ref (a_t 4), .ref (a_t 5), .ref (a_t 6), .ref (a_t 7), .ref (a_t 8), .ref (a_t 9), .int t_taped, .int t_faultKind, .int t_faultPlace, .int t_at, .int t_begin, .int t_token, .int t_value, .int t_bad, .ref (a_t 18), .ref (a_t 19), .ref (a_t 20), .int t_wide, .int t_lost, .ref (a_t 23), .long t_det, .ref (a_t 25), .int t_mask, .int t_mode, .int t_wanted, .int t_orders, .int t_foundAt, .long t_foundBy, .ref (a_t 32), .ref (a_t 33), .int t_unlikes, .ref (a_t 35), .ref (a_t 36)])), ((a_t 1), .inl (g.2.2.1 0, 27, .inl t_mem)), ((a_t 20), .inl (g.2.2.1 0, 8, .inl t_row)), ((a_t 23), .inl (g.2.2.1 1, 3, .inr (.inl t_strain)))] H → va_D A [((a_t 0), .inr (7, [.ref (a_t 1), .ref (a_t 2), .int t_acted, .ref (a_t 4), .ref (a_t 5), .ref (a_t 6), .ref (a_t 7), .ref (a_t 8), .ref (a_t 9), .int t_taped, .int t_faultKind, .int t_faultPlace, .int t_at, .int t_begin, .int t_token, .int t_value, .int t_bad, .ref (a_t 18), .ref (a_t 19), .ref (a_t 20), .int t_wide, .int t_lost, .ref (a_t 23), .long t_det, .ref (a_t 25), .int t_mask, .int t_mode, .int t_wanted, .int t_orders, .int t_foundAt, .long t_foundBy, .ref (a_t 32), .ref (a_t 33), .int t_unlikes, .ref (a_t 35), .ref (a_t 36)])), ((a_t 1), .inl (g.2.2.1 0, 27, .inl t_mem)), ((a_t 20), .inl (g.2.2.1 0, 8, .inl t_row)), ((a_t 23), .inl (g.2.2.1 1, 3, .inr (.inl t_strain)))] → va_S A s.heap H locs → ∀ (ls : Array Slot), lv_has ls 3 [(0, .ref ((a_t 0))), (1, .int v1), (2, .int v2)] → fX8_carries_40  n t_mem t_row t_wide t_lost t_strain t_det v1 v2 = some (o, o_t_row, o_t_wide, o_t_lost, o_t_strain, o_t_det) → W p l e ⟨6, 0, 0, 161⟩ s m args below meth c H locs 0 0 Q (F0 m 40 ls []) := by
    intro n
    induction n with
    | zero => intro t_row t_wide t_lost t_strain t_det v1 v2 H locs hP hD hS ls hl h; cases (fX8_carries_40_z  t_mem t_row t_wide t_lost t_strain t_det v1 v2).symm.trans h
    | succ n ih =>
    intro t_row t_wide t_lost t_strain t_det v1 v2 H locs hP hD hS ls hl h
    have h := (fX8_carries_40_s  n t_mem t_row t_wide t_lost t_strain t_det v1 v2).symm.trans h
    have hG := hGk hS
    refine lv_aload_n hx hb dX8_carries_40 rfl (lv_at hl 0 rfl) ?_
    refine lv_iload_n hx hb dX8_carries_41 rfl (lv_at hl 1 rfl) ?_
    refine lv_if_ne (tgt := 50) hx hb dX8_carries_42 (by decide) (fun c15 => ?_) (fun c15 => ?_)
    · have h := itn c15 h
      refine lv_lconst (v := 0) hx hb dX8_carries_50 (by decide) ?_
      exact w51 _ ih t_row t_wide t_lost t_strain t_det v1 v2 0 _ _ hP hD hS _ (lv_sub hl [0, 1, 2] rfl) h
    · have h := itp c15 h
      refine lv_iload_n hx hb dX8_carries_45 rfl (lv_at hl 2 rfl) ?_
      refine lv_i2l (v := v2.toInt64) hx hb dX8_carries_46 rfl ?_
      refine lv_goto (tgt := 51) hx hb dX8_carries_47 (by decide) ?_
      exact w51 _ ih t_row t_wide t_lost t_strain t_det v1 v2 v2.toInt64 _ _ hP hD hS _ (lv_sub hl [0, 1, 2] rfl) h
  unfold fX8_carries at h
  refine lv_aload_n hx hb dX8_carries_0 rfl (lv_at hl 0 rfl) ?_
  obtain ⟨r1, hr2, h⟩ := bnd h
  refine ro_z (runV (As := []) (rest := []) cx hl.1 (ctX8_is l g a_t t_acted t_taped t_faultKind t_faultPlace t_at t_begin t_token t_value t_bad t_wide t_lost t_det t_mask t_mode t_wanted t_orders t_foundAt t_foundBy t_unlikes t_mem r1 hr2) kmX8_is kvX8_is lm_X8_236 ⟨rfl, rfl⟩ ⟨Nat.le_of_ble_eq_true rfl, Nat.le_of_ble_eq_true rfl⟩ (roV (q0 := 0) (ci := 7) hG (hP.sub [0, 1] rfl) hP rfl rfl) rfl rfl (Nat.le_of_ble_eq_true rfl) dX8_carries_1 ⟨Nat.le_of_ble_eq_true rfl, Nat.le_of_ble_eq_true rfl⟩) (fun hz3 => ?_)
  refine lv_if_eq (tgt := 17) hx hb dX8_carries_4 (by decide) (fun c4 => ?_) (fun c4 => ?_)
  · have h := itp c4 h
    refine lv_bipush (v := -2) hx hb dX8_carries_17 (by decide) ?_
    exact hrt (fun _ => 0) _ _ ((-2)) t_row t_wide t_lost t_strain t_det _ _ dX8_carries_19 h (hP.sub [0, 1, 2, 3] rfl) (hD.sub [0, 1, 2, 3] (by decide) rfl) hS
  · have h := itn c4 h
    refine lv_iload_n hx hb dX8_carries_7 rfl (lv_at hl 1 rfl) ?_
    refine lv_i2l (v := v1.toInt64) hx hb dX8_carries_8 rfl ?_
    refine lv_lconst (v := 0) hx hb dX8_carries_9 (by decide) ?_
    refine lv_lconst (v := 1) hx hb dX8_carries_10 (by decide) ?_
    refine ro_z (runS (As := [.long v1.toInt64, .long (0), .long (1)]) (rest := []) cx hl.1 (ctX8_in l g v1.toInt64 (0) (1) (fX8_in v1.toInt64 0 1) rfl) kmX8_in ksX8_in lm_X8_83 ⟨rfl, rfl⟩ ⟨Nat.le_of_ble_eq_true rfl, Nat.le_of_ble_eq_true rfl⟩ (roS hG (hP.sub [] rfl)) rfl rfl (Nat.le_of_ble_eq_true rfl) dX8_carries_11 ⟨Nat.le_of_ble_eq_true rfl, Nat.le_of_ble_eq_true rfl⟩) (fun hz5 => ?_)
    refine lv_if_ne (tgt := 20) hx hb dX8_carries_14 (by decide) (fun c6 => ?_) (fun c6 => ?_)
    · have h := itn c6 h
      refine lv_aload_n hx hb dX8_carries_20 rfl (lv_at hl 0 rfl) ?_
      obtain ⟨w8, w9, w10, hr7, h⟩ := ob3_out h
      refine rw_v (WN := fun u11 => [((a_t 23), .inl (g.2.2.1 1, 3, .inr (.inl t_strain))), ((a_t 0), .inr (7, [.ref (a_t 1), .ref (a_t 2), .int t_acted, .ref (a_t 4), .ref (a_t 5), .ref (a_t 6), .ref (a_t 7), .ref (a_t 8), .ref (a_t 9), .int t_taped, .int t_faultKind, .int t_faultPlace, .int t_at, .int t_begin, .int t_token, .int t_value, .int t_bad, .ref (a_t 18), .ref (a_t 19), .ref (a_t 20), .int w9, .int w10, .ref (a_t 23), .long t_det, .ref (a_t 25), .int t_mask, .int t_mode, .int t_wanted, .int t_orders, .int t_foundAt, .long t_foundBy, .ref (a_t 32), .ref (a_t 33), .int t_unlikes, .ref (a_t 35), .ref (a_t 36)])), ((a_t 1), .inl (g.2.2.1 0, 27, .inl t_mem)), ((a_t 20), .inl (g.2.2.1 0, 8, .inl w8))]) (wr := [((a_t 23), .inl (g.2.2.1 1, 3, .inr (.inl t_strain)))]) (runV (As := []) (rest := []) cx hl.1 (ctX8_laysPlate l g s.heap.size a_t t_acted t_taped t_faultKind t_faultPlace t_at t_begin t_token t_value t_bad t_wide t_lost t_det t_mask t_mode t_wanted t_orders t_foundAt t_foundBy t_unlikes t_mem t_row w8 w9 w10 hr7) kmX8_laysPlate kvX8_laysPlate lm_X8_243 ⟨rfl, rfl⟩ ⟨Nat.le_of_ble_eq_true rfl, Nat.le_of_ble_eq_true rfl⟩ (rwV (q0 := 0) (ci := 7) hG (hP.sub [0, 1, 2] rfl) (hD.sub [0, 1, 2] (by decide) rfl) hAb hb0 hS hP rfl rfl) rfl rfl (Nat.le_of_ble_eq_true rfl) dX8_carries_21 ⟨Nat.le_of_ble_eq_true rfl, Nat.le_of_ble_eq_true rfl⟩) hP hD hS hA [0, 1, 2] [3] rfl rfl (by decide) (by decide) (fun _ => rfl) (fun u11 H locs hP hD hS => ?_)
      have hG := hGk hS
      refine lv_aload_n hx hb dX8_carries_24 rfl (lv_at hl 0 rfl) ?_
      refine lv_iconst (v := 0) hx hb dX8_carries_25 (by decide) ?_
      obtain ⟨r12, hr13, h⟩ := bnd h
      refine ro_l (runV (As := [.int (0)]) (rest := []) cx hl.1 (ctX8_detOf l g a_t t_acted t_taped t_faultKind t_faultPlace t_at t_begin t_token t_value t_bad w9 w10 t_det t_mask t_mode t_wanted t_orders t_foundAt t_foundBy t_unlikes t_mem w8 (0) r12 hr13) kmX8_detOf kvX8_detOf lm_X8_260 ⟨rfl, rfl⟩ ⟨Nat.le_of_ble_eq_true rfl, Nat.le_of_ble_eq_true rfl⟩ (roV (q0 := 1) (ci := 7) hG (hP.sub [1, 2, 3] rfl) hP rfl rfl) rfl rfl (Nat.le_of_ble_eq_true rfl) dX8_carries_26 ⟨Nat.le_of_ble_eq_true rfl, Nat.le_of_ble_eq_true rfl⟩) ?_
      refine lv_lconst (v := 0) hx hb dX8_carries_29 (by decide) ?_
      refine W.lcmp hx hb dX8_carries_30 ?_
      refine lv_if_ne (tgt := 36) hx hb dX8_carries_31 (by decide) (fun c14 => ?_) (fun c14 => ?_)
      · have h := itn c14 h
        refine lv_sipush (v := 999) hx hb dX8_carries_36 (by decide) ?_
        refine lv_istore_n (lv' := [(2, .int (999)), (0, .ref ((a_t 0))), (1, .int v1)]) hx hb dX8_carries_39 rfl hl (by decide) rfl (fun ls hl => ?_)
        exact w40 FU w8 w9 w10 t_strain t_det v1 999 _ _ (hP.sub [1, 2, 3, 0] rfl) (hD.sub [1, 2, 3, 0] (by decide) rfl) hS _ (lv_sub hl [1, 2, 0] rfl) h
      · have h := itp c14 h
        refine lv_iconst (v := -1) hx hb dX8_carries_34 (by decide) ?_
        exact hrt (fun _ => 0) _ _ ((-1)) w8 w9 w10 t_strain t_det _ _ dX8_carries_35 h (hP.sub [1, 2, 3, 0] rfl) (hD.sub [1, 2, 3, 0] (by decide) rfl) hS
    · have h := itp c6 h
      refine lv_bipush (v := -2) hx hb dX8_carries_17 (by decide) ?_
      exact hrt (fun _ => 0) _ _ ((-2)) t_row t_wide t_lost t_strain t_det _ _ dX8_carries_19 h (hP.sub [0, 1, 2, 3] rfl) (hD.sub [0, 1, 2, 3] (by decide) rfl) hS
-- X8_lostBy
theorem dX8_lostBy_0 : decode cX8_lostBy 0 = .ok (.aload_n 0, 1) := by decide +kernel
theorem dX8_lostBy_1 : decode cX8_lostBy 1 = .ok (.iconst 1, 1) := by decide +kernel
theorem dX8_lostBy_2 : decode cX8_lostBy 2 = .ok (.iload_n 1, 1) := by decide +kernel
theorem dX8_lostBy_3 : decode cX8_lostBy 3 = .ok (.ishl, 1) := by decide +kernel
theorem dX8_lostBy_4 : decode cX8_lostBy 4 = .ok (.putfield 209, 3) := by decide +kernel
theorem dX8_lostBy_7 : decode cX8_lostBy 7 = .ok (.iload_n 2, 1) := by decide +kernel
theorem dX8_lostBy_8 : decode cX8_lostBy 8 = .ok (.ifCond .ne 13, 3) := by decide +kernel
theorem dX8_lostBy_11 : decode cX8_lostBy 11 = .ok (.aload_n 0, 1) := by decide +kernel
theorem dX8_lostBy_12 : decode cX8_lostBy 12 = .ok (.iconst 2, 1) := by decide +kernel
theorem dX8_lostBy_13 : decode cX8_lostBy 13 = .ok (.iconst 0, 1) := by decide +kernel
theorem dX8_lostBy_14 : decode cX8_lostBy 14 = .ok (.iconst 0, 1) := by decide +kernel
theorem dX8_lostBy_15 : decode cX8_lostBy 15 = .ok (.invokevirtual 219, 3) := by decide +kernel
theorem dX8_lostBy_18 : decode cX8_lostBy 18 = .ok (.goto 22, 3) := by decide +kernel
theorem dX8_lostBy_21 : decode cX8_lostBy 21 = .ok (.iload_n 2, 1) := by decide +kernel
theorem dX8_lostBy_22 : decode cX8_lostBy 22 = .ok (.iconst 1, 1) := by decide +kernel
theorem dX8_lostBy_23 : decode cX8_lostBy 23 = .ok (.if_icmp .ne 13, 3) := by decide +kernel
theorem dX8_lostBy_26 : decode cX8_lostBy 26 = .ok (.aload_n 0, 1) := by decide +kernel
theorem dX8_lostBy_27 : decode cX8_lostBy 27 = .ok (.iconst 0, 1) := by decide +kernel
theorem dX8_lostBy_28 : decode cX8_lostBy 28 = .ok (.iconst 0, 1) := by decide +kernel
theorem dX8_lostBy_29 : decode cX8_lostBy 29 = .ok (.iconst 0, 1) := by decide +kernel
theorem dX8_lostBy_30 : decode cX8_lostBy 30 = .ok (.invokevirtual 219, 3) := by decide +kernel
theorem dX8_lostBy_33 : decode cX8_lostBy 33 = .ok (.goto 7, 3) := by decide +kernel
theorem dX8_lostBy_36 : decode cX8_lostBy 36 = .ok (.aload_n 0, 1) := by decide +kernel
theorem dX8_lostBy_37 : decode cX8_lostBy 37 = .ok (.invokevirtual 226, 3) := by decide +kernel
theorem dX8_lostBy_40 : decode cX8_lostBy 40 = .ok (.lreturn, 1) := by decide +kernel
noncomputable def fX8_lostBy  (t_mem : Nat → Int32) (t_row : Nat → Int32) (t_wide : Int32) (t_lost : Int32) (v1 : Int32) (v2 : Int32) : Option (Int64 × Int32) := (if v2 = 0 then (fX8_sum t_mem t_row t_wide (1 <<< (v1 &&& 31)) 2 0 0).bind fun r7 => some (r7, 1 <<< (v1 &&& 31)) else (if v2 = 1 then (fX8_sum t_mem t_row t_wide (1 <<< (v1 &&& 31)) 0 0 0).bind fun r5 => some (r5, 1 <<< (v1 &&& 31)) else (fX8_warpHere t_mem t_row t_wide (1 <<< (v1 &&& 31))).bind fun r3 => some (r3, 1 <<< (v1 &&& 31))))
set_option maxHeartbeats 4000000 in
set_option maxRecDepth 100000 in
theorem ctX8_lostBy (l : Launch) (g : GT) (sz : Nat) (a_t : Nat → Nat) (t_acted : Int32) (t_taped : Int32) (t_faultKind : Int32) (t_faultPlace : Int32) (t_at : Int32) (t_begin : Int32) (t_token : Int32) (t_value : Int32) (t_bad : Int32) (t_wide : Int32) (t_lost : Int32) (t_det : Int64) (t_mask : Int32) (t_mode : Int32) (t_wanted : Int32) (t_orders : Int32) (t_foundAt : Int32) (t_foundBy : Int64) (t_unlikes : Int32) (t_mem : Nat → Int32) (t_row : Nat → Int32) (v1 : Int32) (v2 : Int32) (o : Int64) (o_t_lost : Int32) (h : fX8_lostBy t_mem t_row t_wide t_lost v1 v2 = some (o, o_t_lost)) : Met l yX8_lostBy (Cond.code yX8_lostBy cX8_lostBy 3 (some .long) :: Tw) ⟨3, 0, 0, 80⟩ (va_Pc [.ref ((a_t 0)), .int v1, .int v2] (rwB g [((a_t 0), .inr (7, [.ref (a_t 1), .ref (a_t 2), .int t_acted, .ref (a_t 4), .ref (a_t 5), .ref (a_t 6), .ref (a_t 7), .ref (a_t 8), .ref (a_t 9), .int t_taped, .int t_faultKind, .int t_faultPlace, .int t_at, .int t_begin, .int t_token, .int t_value, .int t_bad, .ref (a_t 18), .ref (a_t 19), .ref (a_t 20), .int t_wide, .int t_lost, .ref (a_t 23), .long t_det, .ref (a_t 25), .int t_mask, .int t_mode, .int t_wanted, .int t_orders, .int t_foundAt, .long t_foundBy, .ref (a_t 32), .ref (a_t 33), .int t_unlikes, .ref (a_t 35), .ref (a_t 36)])), ((a_t 1), .inl (g.2.2.1 0, 27, .inl t_mem)), ((a_t 20), .inl (g.2.2.1 0, 8, .inl t_row))] sz)) (va_Ql (fun x (_ : Nat → Nat) => x = o) (fun u => rwE g (va_A [((a_t 0), .inr (7, [.ref (a_t 1), .ref (a_t 2), .int t_acted, .ref (a_t 4), .ref (a_t 5), .ref (a_t 6), .ref (a_t 7), .ref (a_t 8), .ref (a_t 9), .int t_taped, .int t_faultKind, .int t_faultPlace, .int t_at, .int t_begin, .int t_token, .int t_value, .int t_bad, .ref (a_t 18), .ref (a_t 19), .ref (a_t 20), .int t_wide, .int t_lost, .ref (a_t 23), .long t_det, .ref (a_t 25), .int t_mask, .int t_mode, .int t_wanted, .int t_orders, .int t_foundAt, .long t_foundBy, .ref (a_t 32), .ref (a_t 33), .int t_unlikes, .ref (a_t 35), .ref (a_t 36)])), ((a_t 1), .inl (g.2.2.1 0, 27, .inl t_mem)), ((a_t 20), .inl (g.2.2.1 0, 8, .inl t_row))] sz) [((a_t 0), .inr (7, [.ref (a_t 1), .ref (a_t 2), .int t_acted, .ref (a_t 4), .ref (a_t 5), .ref (a_t 6), .ref (a_t 7), .ref (a_t 8), .ref (a_t 9), .int t_taped, .int t_faultKind, .int t_faultPlace, .int t_at, .int t_begin, .int t_token, .int t_value, .int t_bad, .ref (a_t 18), .ref (a_t 19), .ref (a_t 20), .int t_wide, .int o_t_lost, .ref (a_t 23), .long t_det, .ref (a_t 25), .int t_mask, .int t_mode, .int t_wanted, .int t_orders, .int t_foundAt, .long t_foundBy, .ref (a_t 32), .ref (a_t 33), .int t_unlikes, .ref (a_t 35), .ref (a_t 36)])), ((a_t 1), .inl (g.2.2.1 0, 27, .inl t_mem)), ((a_t 20), .inl (g.2.2.1 0, 8, .inl t_row))]) (va_A [((a_t 0), .inr (7, [.ref (a_t 1), .ref (a_t 2), .int t_acted, .ref (a_t 4), .ref (a_t 5), .ref (a_t 6), .ref (a_t 7), .ref (a_t 8), .ref (a_t 9), .int t_taped, .int t_faultKind, .int t_faultPlace, .int t_at, .int t_begin, .int t_token, .int t_value, .int t_bad, .ref (a_t 18), .ref (a_t 19), .ref (a_t 20), .int t_wide, .int t_lost, .ref (a_t 23), .long t_det, .ref (a_t 25), .int t_mask, .int t_mode, .int t_wanted, .int t_orders, .int t_foundAt, .long t_foundBy, .ref (a_t 32), .ref (a_t 33), .int t_unlikes, .ref (a_t 35), .ref (a_t 36)])), ((a_t 1), .inl (g.2.2.1 0, 27, .inl t_mem)), ((a_t 20), .inl (g.2.2.1 0, 8, .inl t_row))] sz)) 0 0 (va_A [((a_t 0), .inr (7, [.ref (a_t 1), .ref (a_t 2), .int t_acted, .ref (a_t 4), .ref (a_t 5), .ref (a_t 6), .ref (a_t 7), .ref (a_t 8), .ref (a_t 9), .int t_taped, .int t_faultKind, .int t_faultPlace, .int t_at, .int t_begin, .int t_token, .int t_value, .int t_bad, .ref (a_t 18), .ref (a_t 19), .ref (a_t 20), .int t_wide, .int t_lost, .ref (a_t 23), .long t_det, .ref (a_t 25), .int t_mask, .int t_mode, .int t_wanted, .int t_orders, .int t_foundAt, .long t_foundBy, .ref (a_t 32), .ref (a_t 33), .int t_unlikes, .ref (a_t 35), .ref (a_t 36)])), ((a_t 1), .inl (g.2.2.1 0, 27, .inl t_mem)), ((a_t 20), .inl (g.2.2.1 0, 8, .inl t_row))] sz) := by
  refine rw_metl (by decide) (Nat.le_of_ble_eq_true rfl) (lv0 := [(0, .ref ((a_t 0))), (1, .int v1), (2, .int v2)]) rfl ?_
  intro p e s m args below meth c ls Q A cx hret hG hAb hb0 hA hP hD hl
  have hx := cx.1
  have hb := cx.2.1
  have hG0 := hG
  have hGk : ∀ {H : Heap} {locs : List Loc}, va_S A s.heap H locs → GE g s H := fun hS => hG0.keptS hAb hS
  have hSb : ∀ {H : Heap} {locs : List Loc}, va_S A s.heap H locs → va_S (fun a => g.1 ≤ a) s.heap H locs := fun hS => ⟨hS.1, fun q h1 h2 => hS.2.1 q h1 (fun z => h2 (hAb q z)), fun l hl => hAb _ (hS.2.2 l hl)⟩
  have hS : va_S A s.heap s.heap [] := va_S.rf
  have hrt : ∀ (u : Nat → Nat) (pc : Nat) (ls : Array Slot) (v : Int64) (x_t_lost : Int32) (H : Heap) (locs : List Loc), decode cX8_lostBy pc = .ok (.lreturn, 1) → some (v, x_t_lost) = some (o, o_t_lost) → va_P g.2.1 vwCl [((a_t 0), .inr (7, [.ref (a_t 1), .ref (a_t 2), .int t_acted, .ref (a_t 4), .ref (a_t 5), .ref (a_t 6), .ref (a_t 7), .ref (a_t 8), .ref (a_t 9), .int t_taped, .int t_faultKind, .int t_faultPlace, .int t_at, .int t_begin, .int t_token, .int t_value, .int t_bad, .ref (a_t 18), .ref (a_t 19), .ref (a_t 20), .int t_wide, .int x_t_lost, .ref (a_t 23), .long t_det, .ref (a_t 25), .int t_mask, .int t_mode, .int t_wanted, .int t_orders, .int t_foundAt, .long t_foundBy, .ref (a_t 32), .ref (a_t 33), .int t_unlikes, .ref (a_t 35), .ref (a_t 36)])), ((a_t 1), .inl (g.2.2.1 0, 27, .inl t_mem)), ((a_t 20), .inl (g.2.2.1 0, 8, .inl t_row))] H → va_D A [((a_t 0), .inr (7, [.ref (a_t 1), .ref (a_t 2), .int t_acted, .ref (a_t 4), .ref (a_t 5), .ref (a_t 6), .ref (a_t 7), .ref (a_t 8), .ref (a_t 9), .int t_taped, .int t_faultKind, .int t_faultPlace, .int t_at, .int t_begin, .int t_token, .int t_value, .int t_bad, .ref (a_t 18), .ref (a_t 19), .ref (a_t 20), .int t_wide, .int x_t_lost, .ref (a_t 23), .long t_det, .ref (a_t 25), .int t_mask, .int t_mode, .int t_wanted, .int t_orders, .int t_foundAt, .long t_foundBy, .ref (a_t 32), .ref (a_t 33), .int t_unlikes, .ref (a_t 35), .ref (a_t 36)])), ((a_t 1), .inl (g.2.2.1 0, 27, .inl t_mem)), ((a_t 20), .inl (g.2.2.1 0, 8, .inl t_row))] → va_S A s.heap H locs → W p l e ⟨3, 0, 0, 80⟩ s m args below meth c H locs 0 0 Q (F0 m pc ls [.long v]) := by
    intro u pc ls v x_t_lost H locs hd h hP hD hS
    cases h
    exact hret u _ _ _ _ _ hd rfl hP hD hS
  unfold fX8_lostBy at h
  refine lv_aload_n hx hb dX8_lostBy_0 rfl (lv_at hl 0 rfl) ?_
  refine lv_iconst (v := 1) hx hb dX8_lostBy_1 (by decide) ?_
  refine lv_iload_n hx hb dX8_lostBy_2 rfl (lv_at hl 1 rfl) ?_
  refine lv_ishl hx hb dX8_lostBy_3 ?_
  refine xw_put (C := RX8) (T := TX8) (N := 36) (ty := .int) (v := .int (1 <<< (v1 &&& 31))) (ws' := [((a_t 0), .inr (7, [.ref (a_t 1), .ref (a_t 2), .int t_acted, .ref (a_t 4), .ref (a_t 5), .ref (a_t 6), .ref (a_t 7), .ref (a_t 8), .ref (a_t 9), .int t_taped, .int t_faultKind, .int t_faultPlace, .int t_at, .int t_begin, .int t_token, .int t_value, .int t_bad, .ref (a_t 18), .ref (a_t 19), .ref (a_t 20), .int t_wide, .int (1 <<< (v1 &&& 31)), .ref (a_t 23), .long t_det, .ref (a_t 25), .int t_mask, .int t_mode, .int t_wanted, .int t_orders, .int t_foundAt, .long t_foundBy, .ref (a_t 32), .ref (a_t 33), .int t_unlikes, .ref (a_t 35), .ref (a_t 36)])), ((a_t 1), .inl (g.2.2.1 0, 27, .inl t_mem)), ((a_t 20), .inl (g.2.2.1 0, 8, .inl t_row))]) cx hG hP hD hS 0 rfl rfl uX8 tyX8 tyX8_ok nmX8 21 (by decide) lf_X8_209 rfl (by decide +kernel) rfl rfl (Nat.le_of_ble_eq_true rfl) rfl dX8_lostBy_4 (fun H locs hP hD hS => ?_)
  have hG := hGk hS
  refine lv_iload_n hx hb dX8_lostBy_7 rfl (lv_at hl 2 rfl) ?_
  refine lv_if_ne (tgt := 21) hx hb dX8_lostBy_8 (by decide) (fun c1 => ?_) (fun c1 => ?_)
  · have h := itn c1 h
    refine lv_iload_n hx hb dX8_lostBy_21 rfl (lv_at hl 2 rfl) ?_
    refine lv_iconst (v := 1) hx hb dX8_lostBy_22 (by decide) ?_
    refine lv_icmp_ne (tgt := 36) hx hb dX8_lostBy_23 (by decide) (fun c2 => ?_) (fun c2 => ?_)
    · have h := itn c2 h
      refine lv_aload_n hx hb dX8_lostBy_36 rfl (lv_at hl 0 rfl) ?_
      obtain ⟨r3, hr4, h⟩ := bnd h
      refine ro_l (runV (As := []) (rest := []) cx hl.1 (ctX8_warpHere l g a_t t_acted t_taped t_faultKind t_faultPlace t_at t_begin t_token t_value t_bad t_wide (1 <<< (v1 &&& 31)) t_det t_mask t_mode t_wanted t_orders t_foundAt t_foundBy t_unlikes t_mem t_row r3 hr4) kmX8_warpHere kvX8_warpHere lm_X8_226 ⟨rfl, rfl⟩ ⟨Nat.le_of_ble_eq_true rfl, Nat.le_of_ble_eq_true rfl⟩ (roV (q0 := 0) (ci := 7) hG (hP.sub [0, 1, 2] rfl) hP rfl rfl) rfl rfl (Nat.le_of_ble_eq_true rfl) dX8_lostBy_37 ⟨Nat.le_of_ble_eq_true rfl, Nat.le_of_ble_eq_true rfl⟩) ?_
      exact hrt (fun _ => 0) _ _ r3 (1 <<< (v1 &&& 31)) _ _ dX8_lostBy_40 h (hP.sub [0, 1, 2] rfl) (hD.sub [0, 1, 2] (by decide) rfl) hS
    · have h := itp c2 h
      refine lv_aload_n hx hb dX8_lostBy_26 rfl (lv_at hl 0 rfl) ?_
      refine lv_iconst (v := 0) hx hb dX8_lostBy_27 (by decide) ?_
      refine lv_iconst (v := 0) hx hb dX8_lostBy_28 (by decide) ?_
      refine lv_iconst (v := 0) hx hb dX8_lostBy_29 (by decide) ?_
      obtain ⟨r5, hr6, h⟩ := bnd h
      refine ro_l (runV (As := [.int (0), .int (0), .int (0)]) (rest := []) cx hl.1 (ctX8_sum l g a_t t_acted t_taped t_faultKind t_faultPlace t_at t_begin t_token t_value t_bad t_wide (1 <<< (v1 &&& 31)) t_det t_mask t_mode t_wanted t_orders t_foundAt t_foundBy t_unlikes t_mem t_row (0) (0) (0) r5 hr6) kmX8_sum kvX8_sum lm_X8_219 ⟨rfl, rfl⟩ ⟨Nat.le_of_ble_eq_true rfl, Nat.le_of_ble_eq_true rfl⟩ (roV (q0 := 0) (ci := 7) hG (hP.sub [0, 1, 2] rfl) hP rfl rfl) rfl rfl (Nat.le_of_ble_eq_true rfl) dX8_lostBy_30 ⟨Nat.le_of_ble_eq_true rfl, Nat.le_of_ble_eq_true rfl⟩) ?_
      refine lv_goto (tgt := 40) hx hb dX8_lostBy_33 (by decide) ?_
      exact hrt (fun _ => 0) _ _ r5 (1 <<< (v1 &&& 31)) _ _ dX8_lostBy_40 h (hP.sub [0, 1, 2] rfl) (hD.sub [0, 1, 2] (by decide) rfl) hS
  · have h := itp c1 h
    refine lv_aload_n hx hb dX8_lostBy_11 rfl (lv_at hl 0 rfl) ?_
    refine lv_iconst (v := 2) hx hb dX8_lostBy_12 (by decide) ?_
    refine lv_iconst (v := 0) hx hb dX8_lostBy_13 (by decide) ?_
    refine lv_iconst (v := 0) hx hb dX8_lostBy_14 (by decide) ?_
    obtain ⟨r7, hr8, h⟩ := bnd h
    refine ro_l (runV (As := [.int (2), .int (0), .int (0)]) (rest := []) cx hl.1 (ctX8_sum l g a_t t_acted t_taped t_faultKind t_faultPlace t_at t_begin t_token t_value t_bad t_wide (1 <<< (v1 &&& 31)) t_det t_mask t_mode t_wanted t_orders t_foundAt t_foundBy t_unlikes t_mem t_row (2) (0) (0) r7 hr8) kmX8_sum kvX8_sum lm_X8_219 ⟨rfl, rfl⟩ ⟨Nat.le_of_ble_eq_true rfl, Nat.le_of_ble_eq_true rfl⟩ (roV (q0 := 0) (ci := 7) hG (hP.sub [0, 1, 2] rfl) hP rfl rfl) rfl rfl (Nat.le_of_ble_eq_true rfl) dX8_lostBy_15 ⟨Nat.le_of_ble_eq_true rfl, Nat.le_of_ble_eq_true rfl⟩) ?_
    refine lv_goto (tgt := 40) hx hb dX8_lostBy_18 (by decide) ?_
    exact hrt (fun _ => 0) _ _ r7 (1 <<< (v1 &&& 31)) _ _ dX8_lostBy_40 h (hP.sub [0, 1, 2] rfl) (hD.sub [0, 1, 2] (by decide) rfl) hS
-- X8_lost
theorem dX8_lost_0 : decode cX8_lost 0 = .ok (.aload_n 0, 1) := by decide +kernel
theorem dX8_lost_1 : decode cX8_lost 1 = .ok (.iload_n 1, 1) := by decide +kernel
theorem dX8_lost_2 : decode cX8_lost 2 = .ok (.invokevirtual 199, 3) := by decide +kernel
theorem dX8_lost_5 : decode cX8_lost 5 = .ok (.ifCond .eq 15, 3) := by decide +kernel
theorem dX8_lost_8 : decode cX8_lost 8 = .ok (.iload_n 2, 1) := by decide +kernel
theorem dX8_lost_9 : decode cX8_lost 9 = .ok (.i2l, 1) := by decide +kernel
theorem dX8_lost_10 : decode cX8_lost 10 = .ok (.lconst 0, 1) := by decide +kernel
theorem dX8_lost_11 : decode cX8_lost 11 = .ok (.ldc2_w 239, 3) := by decide +kernel
theorem dX8_lost_14 : decode cX8_lost 14 = .ok (.invokestatic 83, 3) := by decide +kernel
theorem dX8_lost_17 : decode cX8_lost 17 = .ok (.ifCond .ne 7, 3) := by decide +kernel
theorem dX8_lost_20 : decode cX8_lost 20 = .ok (.ldc2_w 241, 3) := by decide +kernel
theorem dX8_lost_23 : decode cX8_lost 23 = .ok (.lreturn, 1) := by decide +kernel
theorem dX8_lost_24 : decode cX8_lost 24 = .ok (.aload_n 0, 1) := by decide +kernel
theorem dX8_lost_25 : decode cX8_lost 25 = .ok (.invokevirtual 243, 3) := by decide +kernel
theorem dX8_lost_28 : decode cX8_lost 28 = .ok (.aload_n 0, 1) := by decide +kernel
theorem dX8_lost_29 : decode cX8_lost 29 = .ok (.iload_n 1, 1) := by decide +kernel
theorem dX8_lost_30 : decode cX8_lost 30 = .ok (.iload_n 2, 1) := by decide +kernel
theorem dX8_lost_31 : decode cX8_lost 31 = .ok (.invokevirtual 313, 3) := by decide +kernel
theorem dX8_lost_34 : decode cX8_lost 34 = .ok (.lreturn, 1) := by decide +kernel
noncomputable def fX8_lost  (t_mem : Nat → Int32) (t_row : Nat → Int32) (t_wide : Int32) (t_lost : Int32) (v1 : Int32) (v2 : Int32) : Option (Int64 × (Nat → Int32) × Int32 × Int32) := (fX8_isPly t_mem v1).bind fun r1 => (if r1 = 0 then some ((-9223372036854775808), t_row, t_wide, t_lost) else (if (fX8_in v2.toInt64 0 2) = 0 then some ((-9223372036854775808), t_row, t_wide, t_lost) else ob3 (fX8_laysPlate t_mem t_row t_wide t_lost) fun w8 w9 w10 => ob2 (fX8_lostBy t_mem w8 w9 w10 v1 v2) fun r13 w14 => some (r13, w8, w9, w14)))
set_option maxHeartbeats 4000000 in
set_option maxRecDepth 100000 in
theorem ctX8_lost (l : Launch) (g : GT) (sz : Nat) (a_t : Nat → Nat) (t_acted : Int32) (t_taped : Int32) (t_faultKind : Int32) (t_faultPlace : Int32) (t_at : Int32) (t_begin : Int32) (t_token : Int32) (t_value : Int32) (t_bad : Int32) (t_wide : Int32) (t_lost : Int32) (t_det : Int64) (t_mask : Int32) (t_mode : Int32) (t_wanted : Int32) (t_orders : Int32) (t_foundAt : Int32) (t_foundBy : Int64) (t_unlikes : Int32) (t_mem : Nat → Int32) (t_row : Nat → Int32) (v1 : Int32) (v2 : Int32) (o : Int64) (o_t_row : Nat → Int32) (o_t_wide : Int32) (o_t_lost : Int32) (h : fX8_lost t_mem t_row t_wide t_lost v1 v2 = some (o, o_t_row, o_t_wide, o_t_lost)) : Met l yX8_lost (Cond.code yX8_lost cX8_lost 3 (some .long) :: Tw) ⟨4, 0, 0, 102⟩ (va_Pc [.ref ((a_t 0)), .int v1, .int v2] (rwB g [((a_t 0), .inr (7, [.ref (a_t 1), .ref (a_t 2), .int t_acted, .ref (a_t 4), .ref (a_t 5), .ref (a_t 6), .ref (a_t 7), .ref (a_t 8), .ref (a_t 9), .int t_taped, .int t_faultKind, .int t_faultPlace, .int t_at, .int t_begin, .int t_token, .int t_value, .int t_bad, .ref (a_t 18), .ref (a_t 19), .ref (a_t 20), .int t_wide, .int t_lost, .ref (a_t 23), .long t_det, .ref (a_t 25), .int t_mask, .int t_mode, .int t_wanted, .int t_orders, .int t_foundAt, .long t_foundBy, .ref (a_t 32), .ref (a_t 33), .int t_unlikes, .ref (a_t 35), .ref (a_t 36)])), ((a_t 1), .inl (g.2.2.1 0, 27, .inl t_mem)), ((a_t 20), .inl (g.2.2.1 0, 8, .inl t_row))] sz)) (va_Ql (fun x (_ : Nat → Nat) => x = o) (fun u => rwE g (va_A [((a_t 0), .inr (7, [.ref (a_t 1), .ref (a_t 2), .int t_acted, .ref (a_t 4), .ref (a_t 5), .ref (a_t 6), .ref (a_t 7), .ref (a_t 8), .ref (a_t 9), .int t_taped, .int t_faultKind, .int t_faultPlace, .int t_at, .int t_begin, .int t_token, .int t_value, .int t_bad, .ref (a_t 18), .ref (a_t 19), .ref (a_t 20), .int t_wide, .int t_lost, .ref (a_t 23), .long t_det, .ref (a_t 25), .int t_mask, .int t_mode, .int t_wanted, .int t_orders, .int t_foundAt, .long t_foundBy, .ref (a_t 32), .ref (a_t 33), .int t_unlikes, .ref (a_t 35), .ref (a_t 36)])), ((a_t 1), .inl (g.2.2.1 0, 27, .inl t_mem)), ((a_t 20), .inl (g.2.2.1 0, 8, .inl t_row))] sz) [((a_t 0), .inr (7, [.ref (a_t 1), .ref (a_t 2), .int t_acted, .ref (a_t 4), .ref (a_t 5), .ref (a_t 6), .ref (a_t 7), .ref (a_t 8), .ref (a_t 9), .int t_taped, .int t_faultKind, .int t_faultPlace, .int t_at, .int t_begin, .int t_token, .int t_value, .int t_bad, .ref (a_t 18), .ref (a_t 19), .ref (a_t 20), .int o_t_wide, .int o_t_lost, .ref (a_t 23), .long t_det, .ref (a_t 25), .int t_mask, .int t_mode, .int t_wanted, .int t_orders, .int t_foundAt, .long t_foundBy, .ref (a_t 32), .ref (a_t 33), .int t_unlikes, .ref (a_t 35), .ref (a_t 36)])), ((a_t 1), .inl (g.2.2.1 0, 27, .inl t_mem)), ((a_t 20), .inl (g.2.2.1 0, 8, .inl o_t_row))]) (va_A [((a_t 0), .inr (7, [.ref (a_t 1), .ref (a_t 2), .int t_acted, .ref (a_t 4), .ref (a_t 5), .ref (a_t 6), .ref (a_t 7), .ref (a_t 8), .ref (a_t 9), .int t_taped, .int t_faultKind, .int t_faultPlace, .int t_at, .int t_begin, .int t_token, .int t_value, .int t_bad, .ref (a_t 18), .ref (a_t 19), .ref (a_t 20), .int t_wide, .int t_lost, .ref (a_t 23), .long t_det, .ref (a_t 25), .int t_mask, .int t_mode, .int t_wanted, .int t_orders, .int t_foundAt, .long t_foundBy, .ref (a_t 32), .ref (a_t 33), .int t_unlikes, .ref (a_t 35), .ref (a_t 36)])), ((a_t 1), .inl (g.2.2.1 0, 27, .inl t_mem)), ((a_t 20), .inl (g.2.2.1 0, 8, .inl t_row))] sz)) 0 0 (va_A [((a_t 0), .inr (7, [.ref (a_t 1), .ref (a_t 2), .int t_acted, .ref (a_t 4), .ref (a_t 5), .ref (a_t 6), .ref (a_t 7), .ref (a_t 8), .ref (a_t 9), .int t_taped, .int t_faultKind, .int t_faultPlace, .int t_at, .int t_begin, .int t_token, .int t_value, .int t_bad, .ref (a_t 18), .ref (a_t 19), .ref (a_t 20), .int t_wide, .int t_lost, .ref (a_t 23), .long t_det, .ref (a_t 25), .int t_mask, .int t_mode, .int t_wanted, .int t_orders, .int t_foundAt, .long t_foundBy, .ref (a_t 32), .ref (a_t 33), .int t_unlikes, .ref (a_t 35), .ref (a_t 36)])), ((a_t 1), .inl (g.2.2.1 0, 27, .inl t_mem)), ((a_t 20), .inl (g.2.2.1 0, 8, .inl t_row))] sz) := by
  refine rw_metl (by decide) (Nat.le_of_ble_eq_true rfl) (lv0 := [(0, .ref ((a_t 0))), (1, .int v1), (2, .int v2)]) rfl ?_
  intro p e s m args below meth c ls Q A cx hret hG hAb hb0 hA hP hD hl
  have hx := cx.1
  have hb := cx.2.1
  have hG0 := hG
  have hGk : ∀ {H : Heap} {locs : List Loc}, va_S A s.heap H locs → GE g s H := fun hS => hG0.keptS hAb hS
  have hSb : ∀ {H : Heap} {locs : List Loc}, va_S A s.heap H locs → va_S (fun a => g.1 ≤ a) s.heap H locs := fun hS => ⟨hS.1, fun q h1 h2 => hS.2.1 q h1 (fun z => h2 (hAb q z)), fun l hl => hAb _ (hS.2.2 l hl)⟩
  have hS : va_S A s.heap s.heap [] := va_S.rf
  have hrt : ∀ (u : Nat → Nat) (pc : Nat) (ls : Array Slot) (v : Int64) (x_t_row : Nat → Int32) (x_t_wide : Int32) (x_t_lost : Int32) (H : Heap) (locs : List Loc), decode cX8_lost pc = .ok (.lreturn, 1) → some (v, x_t_row, x_t_wide, x_t_lost) = some (o, o_t_row, o_t_wide, o_t_lost) → va_P g.2.1 vwCl [((a_t 0), .inr (7, [.ref (a_t 1), .ref (a_t 2), .int t_acted, .ref (a_t 4), .ref (a_t 5), .ref (a_t 6), .ref (a_t 7), .ref (a_t 8), .ref (a_t 9), .int t_taped, .int t_faultKind, .int t_faultPlace, .int t_at, .int t_begin, .int t_token, .int t_value, .int t_bad, .ref (a_t 18), .ref (a_t 19), .ref (a_t 20), .int x_t_wide, .int x_t_lost, .ref (a_t 23), .long t_det, .ref (a_t 25), .int t_mask, .int t_mode, .int t_wanted, .int t_orders, .int t_foundAt, .long t_foundBy, .ref (a_t 32), .ref (a_t 33), .int t_unlikes, .ref (a_t 35), .ref (a_t 36)])), ((a_t 1), .inl (g.2.2.1 0, 27, .inl t_mem)), ((a_t 20), .inl (g.2.2.1 0, 8, .inl x_t_row))] H → va_D A [((a_t 0), .inr (7, [.ref (a_t 1), .ref (a_t 2), .int t_acted, .ref (a_t 4), .ref (a_t 5), .ref (a_t 6), .ref (a_t 7), .ref (a_t 8), .ref (a_t 9), .int t_taped, .int t_faultKind, .int t_faultPlace, .int t_at, .int t_begin, .int t_token, .int t_value, .int t_bad, .ref (a_t 18), .ref (a_t 19), .ref (a_t 20), .int x_t_wide, .int x_t_lost, .ref (a_t 23), .long t_det, .ref (a_t 25), .int t_mask, .int t_mode, .int t_wanted, .int t_orders, .int t_foundAt, .long t_foundBy, .ref (a_t 32), .ref (a_t 33), .int t_unlikes, .ref (a_t 35), .ref (a_t 36)])), ((a_t 1), .inl (g.2.2.1 0, 27, .inl t_mem)), ((a_t 20), .inl (g.2.2.1 0, 8, .inl x_t_row))] → va_S A s.heap H locs → W p l e ⟨4, 0, 0, 102⟩ s m args below meth c H locs 0 0 Q (F0 m pc ls [.long v]) := by
    intro u pc ls v x_t_row x_t_wide x_t_lost H locs hd h hP hD hS
    cases h
    exact hret u _ _ _ _ _ hd rfl hP hD hS
  unfold fX8_lost at h
  refine lv_aload_n hx hb dX8_lost_0 rfl (lv_at hl 0 rfl) ?_
  refine lv_iload_n hx hb dX8_lost_1 rfl (lv_at hl 1 rfl) ?_
  obtain ⟨r1, hr2, h⟩ := bnd h
  refine ro_z (runV (As := [.int v1]) (rest := []) cx hl.1 (ctX8_isPly l g a_t t_acted t_taped t_faultKind t_faultPlace t_at t_begin t_token t_value t_bad t_wide t_lost t_det t_mask t_mode t_wanted t_orders t_foundAt t_foundBy t_unlikes t_mem v1 r1 hr2) kmX8_isPly kvX8_isPly lm_X8_199 ⟨rfl, rfl⟩ ⟨Nat.le_of_ble_eq_true rfl, Nat.le_of_ble_eq_true rfl⟩ (roV (q0 := 0) (ci := 7) hG (hP.sub [0, 1] rfl) hP rfl rfl) rfl rfl (Nat.le_of_ble_eq_true rfl) dX8_lost_2 ⟨Nat.le_of_ble_eq_true rfl, Nat.le_of_ble_eq_true rfl⟩) (fun hz3 => ?_)
  refine lv_if_eq (tgt := 20) hx hb dX8_lost_5 (by decide) (fun c4 => ?_) (fun c4 => ?_)
  · have h := itp c4 h
    refine lv_ldc2 (own := RX8) (v := -9223372036854775808) hx hb cx.2.2.2.1 (cx.2.2.2.2 _ cl_X8_241) dX8_lost_20 ?_
    exact hrt (fun _ => 0) _ _ ((-9223372036854775808)) t_row t_wide t_lost _ _ dX8_lost_23 h (hP.sub [0, 1, 2] rfl) (hD.sub [0, 1, 2] (by decide) rfl) hS
  · have h := itn c4 h
    refine lv_iload_n hx hb dX8_lost_8 rfl (lv_at hl 2 rfl) ?_
    refine lv_i2l (v := v2.toInt64) hx hb dX8_lost_9 rfl ?_
    refine lv_lconst (v := 0) hx hb dX8_lost_10 (by decide) ?_
    refine lv_ldc2 (own := RX8) (v := 2) hx hb cx.2.2.2.1 (cx.2.2.2.2 _ cl_X8_239) dX8_lost_11 ?_
    refine ro_z (runS (As := [.long v2.toInt64, .long (0), .long (2)]) (rest := []) cx hl.1 (ctX8_in l g v2.toInt64 (0) (2) (fX8_in v2.toInt64 0 2) rfl) kmX8_in ksX8_in lm_X8_83 ⟨rfl, rfl⟩ ⟨Nat.le_of_ble_eq_true rfl, Nat.le_of_ble_eq_true rfl⟩ (roS hG (hP.sub [] rfl)) rfl rfl (Nat.le_of_ble_eq_true rfl) dX8_lost_14 ⟨Nat.le_of_ble_eq_true rfl, Nat.le_of_ble_eq_true rfl⟩) (fun hz5 => ?_)
    refine lv_if_ne (tgt := 24) hx hb dX8_lost_17 (by decide) (fun c6 => ?_) (fun c6 => ?_)
    · have h := itn c6 h
      refine lv_aload_n hx hb dX8_lost_24 rfl (lv_at hl 0 rfl) ?_
      obtain ⟨w8, w9, w10, hr7, h⟩ := ob3_out h
      refine rw_v (WN := fun u11 => [((a_t 0), .inr (7, [.ref (a_t 1), .ref (a_t 2), .int t_acted, .ref (a_t 4), .ref (a_t 5), .ref (a_t 6), .ref (a_t 7), .ref (a_t 8), .ref (a_t 9), .int t_taped, .int t_faultKind, .int t_faultPlace, .int t_at, .int t_begin, .int t_token, .int t_value, .int t_bad, .ref (a_t 18), .ref (a_t 19), .ref (a_t 20), .int w9, .int w10, .ref (a_t 23), .long t_det, .ref (a_t 25), .int t_mask, .int t_mode, .int t_wanted, .int t_orders, .int t_foundAt, .long t_foundBy, .ref (a_t 32), .ref (a_t 33), .int t_unlikes, .ref (a_t 35), .ref (a_t 36)])), ((a_t 1), .inl (g.2.2.1 0, 27, .inl t_mem)), ((a_t 20), .inl (g.2.2.1 0, 8, .inl w8))]) (wr := []) (runV (As := []) (rest := []) cx hl.1 (ctX8_laysPlate l g s.heap.size a_t t_acted t_taped t_faultKind t_faultPlace t_at t_begin t_token t_value t_bad t_wide t_lost t_det t_mask t_mode t_wanted t_orders t_foundAt t_foundBy t_unlikes t_mem t_row w8 w9 w10 hr7) kmX8_laysPlate kvX8_laysPlate lm_X8_243 ⟨rfl, rfl⟩ ⟨Nat.le_of_ble_eq_true rfl, Nat.le_of_ble_eq_true rfl⟩ (rwV (q0 := 0) (ci := 7) hG (hP.sub [0, 1, 2] rfl) (hD.sub [0, 1, 2] (by decide) rfl) hAb hb0 hS hP rfl rfl) rfl rfl (Nat.le_of_ble_eq_true rfl) dX8_lost_25 ⟨Nat.le_of_ble_eq_true rfl, Nat.le_of_ble_eq_true rfl⟩) hP hD hS hA [0, 1, 2] [] rfl rfl (by decide) (by decide) (fun _ => rfl) (fun u11 H locs hP hD hS => ?_)
      have hG := hGk hS
      refine lv_aload_n hx hb dX8_lost_28 rfl (lv_at hl 0 rfl) ?_
      refine lv_iload_n hx hb dX8_lost_29 rfl (lv_at hl 1 rfl) ?_
      refine lv_iload_n hx hb dX8_lost_30 rfl (lv_at hl 2 rfl) ?_
      obtain ⟨r13, w14, hr12, h⟩ := ob2_out h
      refine rw_l (WN := fun u15 => [((a_t 0), .inr (7, [.ref (a_t 1), .ref (a_t 2), .int t_acted, .ref (a_t 4), .ref (a_t 5), .ref (a_t 6), .ref (a_t 7), .ref (a_t 8), .ref (a_t 9), .int t_taped, .int t_faultKind, .int t_faultPlace, .int t_at, .int t_begin, .int t_token, .int t_value, .int t_bad, .ref (a_t 18), .ref (a_t 19), .ref (a_t 20), .int w9, .int w14, .ref (a_t 23), .long t_det, .ref (a_t 25), .int t_mask, .int t_mode, .int t_wanted, .int t_orders, .int t_foundAt, .long t_foundBy, .ref (a_t 32), .ref (a_t 33), .int t_unlikes, .ref (a_t 35), .ref (a_t 36)])), ((a_t 1), .inl (g.2.2.1 0, 27, .inl t_mem)), ((a_t 20), .inl (g.2.2.1 0, 8, .inl w8))]) (wr := []) (runV (As := [.int v1, .int v2]) (rest := []) cx hl.1 (ctX8_lostBy l g H.size a_t t_acted t_taped t_faultKind t_faultPlace t_at t_begin t_token t_value t_bad w9 w10 t_det t_mask t_mode t_wanted t_orders t_foundAt t_foundBy t_unlikes t_mem w8 v1 v2 r13 w14 hr12) kmX8_lostBy kvX8_lostBy lm_X8_313 ⟨rfl, rfl⟩ ⟨Nat.le_of_ble_eq_true rfl, Nat.le_of_ble_eq_true rfl⟩ (rwV (q0 := 0) (ci := 7) hG (hP.sub [0, 1, 2] rfl) (hD.sub [0, 1, 2] (by decide) rfl) hAb hb0 hS hP rfl rfl) rfl rfl (Nat.le_of_ble_eq_true rfl) dX8_lost_31 ⟨Nat.le_of_ble_eq_true rfl, Nat.le_of_ble_eq_true rfl⟩) hP hD hS hA [0, 1, 2] [] rfl rfl (by decide) (by decide) (fun _ => rfl) (fun u15 H locs hP hD hS => ?_)
      have hG := hGk hS
      exact hrt (fun _ => 0) _ _ r13 w8 w9 w14 _ _ dX8_lost_34 h (hP.sub [0, 1, 2] rfl) (hD.sub [0, 1, 2] (by decide) rfl) hS
    · have h := itp c6 h
      refine lv_ldc2 (own := RX8) (v := -9223372036854775808) hx hb cx.2.2.2.1 (cx.2.2.2.2 _ cl_X8_241) dX8_lost_20 ?_
      exact hrt (fun _ => 0) _ _ ((-9223372036854775808)) t_row t_wide t_lost _ _ dX8_lost_23 h (hP.sub [0, 1, 2] rfl) (hD.sub [0, 1, 2] (by decide) rfl) hS
-- X8_worst
theorem dX8_worst_0 : decode cX8_worst 0 = .ok (.aload_n 0, 1) := by decide +kernel
theorem dX8_worst_1 : decode cX8_worst 1 = .ok (.invokevirtual 236, 3) := by decide +kernel
theorem dX8_worst_4 : decode cX8_worst 4 = .ok (.ifCond .eq 15, 3) := by decide +kernel
theorem dX8_worst_7 : decode cX8_worst 7 = .ok (.iload_n 1, 1) := by decide +kernel
theorem dX8_worst_8 : decode cX8_worst 8 = .ok (.i2l, 1) := by decide +kernel
theorem dX8_worst_9 : decode cX8_worst 9 = .ok (.lconst 0, 1) := by decide +kernel
theorem dX8_worst_10 : decode cX8_worst 10 = .ok (.ldc2_w 239, 3) := by decide +kernel
theorem dX8_worst_13 : decode cX8_worst 13 = .ok (.invokestatic 83, 3) := by decide +kernel
theorem dX8_worst_16 : decode cX8_worst 16 = .ok (.ifCond .ne 6, 3) := by decide +kernel
theorem dX8_worst_19 : decode cX8_worst 19 = .ok (.bipush (-2), 2) := by decide +kernel
theorem dX8_worst_21 : decode cX8_worst 21 = .ok (.ireturn, 1) := by decide +kernel
theorem dX8_worst_22 : decode cX8_worst 22 = .ok (.aload_n 0, 1) := by decide +kernel
theorem dX8_worst_23 : decode cX8_worst 23 = .ok (.invokevirtual 243, 3) := by decide +kernel
theorem dX8_worst_26 : decode cX8_worst 26 = .ok (.iconst (-1), 1) := by decide +kernel
theorem dX8_worst_27 : decode cX8_worst 27 = .ok (.istore_n 2, 1) := by decide +kernel
theorem dX8_worst_28 : decode cX8_worst 28 = .ok (.iconst 0, 1) := by decide +kernel
theorem dX8_worst_29 : decode cX8_worst 29 = .ok (.istore_n 3, 1) := by decide +kernel
theorem dX8_worst_30 : decode cX8_worst 30 = .ok (.iload_n 3, 1) := by decide +kernel
theorem dX8_worst_31 : decode cX8_worst 31 = .ok (.aload_n 0, 1) := by decide +kernel
theorem dX8_worst_32 : decode cX8_worst 32 = .ok (.getfield 206, 3) := by decide +kernel
theorem dX8_worst_35 : decode cX8_worst 35 = .ok (.if_icmp .ge 56, 3) := by decide +kernel
theorem dX8_worst_38 : decode cX8_worst 38 = .ok (.iload_n 2, 1) := by decide +kernel
theorem dX8_worst_39 : decode cX8_worst 39 = .ok (.iconst (-1), 1) := by decide +kernel
theorem dX8_worst_40 : decode cX8_worst 40 = .ok (.if_icmp .eq 43, 3) := by decide +kernel
theorem dX8_worst_43 : decode cX8_worst 43 = .ok (.iload_n 1, 1) := by decide +kernel
theorem dX8_worst_44 : decode cX8_worst 44 = .ok (.iconst 2, 1) := by decide +kernel
theorem dX8_worst_45 : decode cX8_worst 45 = .ok (.if_icmp .ne 22, 3) := by decide +kernel
theorem dX8_worst_48 : decode cX8_worst 48 = .ok (.aload_n 0, 1) := by decide +kernel
theorem dX8_worst_49 : decode cX8_worst 49 = .ok (.iload_n 3, 1) := by decide +kernel
theorem dX8_worst_50 : decode cX8_worst 50 = .ok (.iload_n 1, 1) := by decide +kernel
theorem dX8_worst_51 : decode cX8_worst 51 = .ok (.invokevirtual 313, 3) := by decide +kernel
theorem dX8_worst_54 : decode cX8_worst 54 = .ok (.aload_n 0, 1) := by decide +kernel
theorem dX8_worst_55 : decode cX8_worst 55 = .ok (.iload_n 2, 1) := by decide +kernel
theorem dX8_worst_56 : decode cX8_worst 56 = .ok (.iload_n 1, 1) := by decide +kernel
theorem dX8_worst_57 : decode cX8_worst 57 = .ok (.invokevirtual 313, 3) := by decide +kernel
theorem dX8_worst_60 : decode cX8_worst 60 = .ok (.lcmp, 1) := by decide +kernel
theorem dX8_worst_61 : decode cX8_worst 61 = .ok (.ifCond .le 24, 3) := by decide +kernel
theorem dX8_worst_64 : decode cX8_worst 64 = .ok (.goto 19, 3) := by decide +kernel
theorem dX8_worst_67 : decode cX8_worst 67 = .ok (.aload_n 0, 1) := by decide +kernel
theorem dX8_worst_68 : decode cX8_worst 68 = .ok (.iload_n 3, 1) := by decide +kernel
theorem dX8_worst_69 : decode cX8_worst 69 = .ok (.iload_n 1, 1) := by decide +kernel
theorem dX8_worst_70 : decode cX8_worst 70 = .ok (.invokevirtual 313, 3) := by decide +kernel
theorem dX8_worst_73 : decode cX8_worst 73 = .ok (.aload_n 0, 1) := by decide +kernel
theorem dX8_worst_74 : decode cX8_worst 74 = .ok (.iload_n 2, 1) := by decide +kernel
theorem dX8_worst_75 : decode cX8_worst 75 = .ok (.iload_n 1, 1) := by decide +kernel
theorem dX8_worst_76 : decode cX8_worst 76 = .ok (.invokevirtual 313, 3) := by decide +kernel
theorem dX8_worst_79 : decode cX8_worst 79 = .ok (.lcmp, 1) := by decide +kernel
theorem dX8_worst_80 : decode cX8_worst 80 = .ok (.ifCond .ge 5, 3) := by decide +kernel
theorem dX8_worst_83 : decode cX8_worst 83 = .ok (.iload_n 3, 1) := by decide +kernel
theorem dX8_worst_84 : decode cX8_worst 84 = .ok (.istore_n 2, 1) := by decide +kernel
theorem dX8_worst_85 : decode cX8_worst 85 = .ok (.iinc 3 1, 3) := by decide +kernel
theorem dX8_worst_88 : decode cX8_worst 88 = .ok (.goto (-58), 3) := by decide +kernel
theorem dX8_worst_91 : decode cX8_worst 91 = .ok (.iload_n 2, 1) := by decide +kernel
theorem dX8_worst_92 : decode cX8_worst 92 = .ok (.ireturn, 1) := by decide +kernel
noncomputable def fX8_worst_85 (k30 : (Nat → Int32) → (Nat → Int32) → Int32 → Int32 → Int32 → Int32 → Int32 → Option (Int32 × (Nat → Int32) × Int32 × Int32)) (t_mem : Nat → Int32) (t_row : Nat → Int32) (t_wide : Int32) (t_lost : Int32) (v1 : Int32) (v2 : Int32) (v3 : Int32) : Option (Int32 × (Nat → Int32) × Int32 × Int32) := k30 t_mem t_row t_wide t_lost v1 v2 (v3 + 1)
noncomputable def fX8_worst_83 (k30 : (Nat → Int32) → (Nat → Int32) → Int32 → Int32 → Int32 → Int32 → Int32 → Option (Int32 × (Nat → Int32) × Int32 × Int32)) (t_mem : Nat → Int32) (t_row : Nat → Int32) (t_wide : Int32) (t_lost : Int32) (v1 : Int32) (v3 : Int32) : Option (Int32 × (Nat → Int32) × Int32 × Int32) := fX8_worst_85 k30 t_mem t_row t_wide t_lost v1 v3 v3
noncomputable def fX8_worst_30  : Nat → (Nat → Int32) → (Nat → Int32) → Int32 → Int32 → Int32 → Int32 → Int32 → Option (Int32 × (Nat → Int32) × Int32 × Int32)
  | 0, _, _, _, _, _, _, _ => none
  | n + 1, t_mem, t_row, t_wide, t_lost, v1, v2, v3 => (if t_wide ≤ v3 then some (v2, t_row, t_wide, t_lost) else (if v2 = (-1) then fX8_worst_83 (fX8_worst_30 n) t_mem t_row t_wide t_lost v1 v3 else (if v1 = 2 then ob2 (fX8_lostBy t_mem t_row t_wide t_lost v3 v1) fun r25 w26 => ob2 (fX8_lostBy t_mem t_row t_wide w26 v2 v1) fun r29 w30 => (if (lg_cmp r25 r29) ≤ 0 then fX8_worst_85 (fX8_worst_30 n) t_mem t_row t_wide w30 v1 v2 v3 else fX8_worst_83 (fX8_worst_30 n) t_mem t_row t_wide w30 v1 v3) else ob2 (fX8_lostBy t_mem t_row t_wide t_lost v3 v1) fun r16 w17 => ob2 (fX8_lostBy t_mem t_row t_wide w17 v2 v1) fun r20 w21 => (if 0 ≤ (lg_cmp r16 r20) then fX8_worst_85 (fX8_worst_30 n) t_mem t_row t_wide w21 v1 v2 v3 else fX8_worst_83 (fX8_worst_30 n) t_mem t_row t_wide w21 v1 v3))))
theorem fX8_worst_30_z  (t_mem : Nat → Int32) (t_row : Nat → Int32) (t_wide : Int32) (t_lost : Int32) (v1 : Int32) (v2 : Int32) (v3 : Int32) : fX8_worst_30  0 t_mem t_row t_wide t_lost v1 v2 v3 = none := rfl
theorem fX8_worst_30_s  (n : Nat) (t_mem : Nat → Int32) (t_row : Nat → Int32) (t_wide : Int32) (t_lost : Int32) (v1 : Int32) (v2 : Int32) (v3 : Int32) : fX8_worst_30  (n + 1) t_mem t_row t_wide t_lost v1 v2 v3 = (if t_wide ≤ v3 then some (v2, t_row, t_wide, t_lost) else (if v2 = (-1) then fX8_worst_83 (fX8_worst_30 n) t_mem t_row t_wide t_lost v1 v3 else (if v1 = 2 then ob2 (fX8_lostBy t_mem t_row t_wide t_lost v3 v1) fun r25 w26 => ob2 (fX8_lostBy t_mem t_row t_wide w26 v2 v1) fun r29 w30 => (if (lg_cmp r25 r29) ≤ 0 then fX8_worst_85 (fX8_worst_30 n) t_mem t_row t_wide w30 v1 v2 v3 else fX8_worst_83 (fX8_worst_30 n) t_mem t_row t_wide w30 v1 v3) else ob2 (fX8_lostBy t_mem t_row t_wide t_lost v3 v1) fun r16 w17 => ob2 (fX8_lostBy t_mem t_row t_wide w17 v2 v1) fun r20 w21 => (if 0 ≤ (lg_cmp r16 r20) then fX8_worst_85 (fX8_worst_30 n) t_mem t_row t_wide w21 v1 v2 v3 else fX8_worst_83 (fX8_worst_30 n) t_mem t_row t_wide w21 v1 v3)))) := rfl
noncomputable def fX8_worst  (t_mem : Nat → Int32) (t_row : Nat → Int32) (t_wide : Int32) (t_lost : Int32) (v1 : Int32) : Option (Int32 × (Nat → Int32) × Int32 × Int32) := (fX8_is t_mem).bind fun r1 => (if r1 = 0 then some ((-2), t_row, t_wide, t_lost) else (if (fX8_in v1.toInt64 0 2) = 0 then some ((-2), t_row, t_wide, t_lost) else ob3 (fX8_laysPlate t_mem t_row t_wide t_lost) fun w8 w9 w10 => fX8_worst_30 FU t_mem w8 w9 w10 v1 (-1) 0))
set_option maxHeartbeats 4000000 in
set_option maxRecDepth 100000 in
theorem ctX8_worst (l : Launch) (g : GT) (sz : Nat) (a_t : Nat → Nat) (t_acted : Int32) (t_taped : Int32) (t_faultKind : Int32) (t_faultPlace : Int32) (t_at : Int32) (t_begin : Int32) (t_token : Int32) (t_value : Int32) (t_bad : Int32) (t_wide : Int32) (t_lost : Int32) (t_det : Int64) (t_mask : Int32) (t_mode : Int32) (t_wanted : Int32) (t_orders : Int32) (t_foundAt : Int32) (t_foundBy : Int64) (t_unlikes : Int32) (t_mem : Nat → Int32) (t_row : Nat → Int32) (v1 : Int32) (o : Int32) (o_t_row : Nat → Int32) (o_t_wide : Int32) (o_t_lost : Int32) (h : fX8_worst t_mem t_row t_wide t_lost v1 = some (o, o_t_row, o_t_wide, o_t_lost)) : Met l yX8_worst (Cond.code yX8_worst cX8_worst 4 (some .int) :: Tw) ⟨4, 0, 0, 102⟩ (va_Pc [.ref ((a_t 0)), .int v1] (rwB g [((a_t 0), .inr (7, [.ref (a_t 1), .ref (a_t 2), .int t_acted, .ref (a_t 4), .ref (a_t 5), .ref (a_t 6), .ref (a_t 7), .ref (a_t 8), .ref (a_t 9), .int t_taped, .int t_faultKind, .int t_faultPlace, .int t_at, .int t_begin, .int t_token, .int t_value, .int t_bad, .ref (a_t 18), .ref (a_t 19), .ref (a_t 20), .int t_wide, .int t_lost, .ref (a_t 23), .long t_det, .ref (a_t 25), .int t_mask, .int t_mode, .int t_wanted, .int t_orders, .int t_foundAt, .long t_foundBy, .ref (a_t 32), .ref (a_t 33), .int t_unlikes, .ref (a_t 35), .ref (a_t 36)])), ((a_t 1), .inl (g.2.2.1 0, 27, .inl t_mem)), ((a_t 20), .inl (g.2.2.1 0, 8, .inl t_row))] sz)) (va_Qi (fun x (_ : Nat → Nat) => x = o) (fun u => rwE g (va_A [((a_t 0), .inr (7, [.ref (a_t 1), .ref (a_t 2), .int t_acted, .ref (a_t 4), .ref (a_t 5), .ref (a_t 6), .ref (a_t 7), .ref (a_t 8), .ref (a_t 9), .int t_taped, .int t_faultKind, .int t_faultPlace, .int t_at, .int t_begin, .int t_token, .int t_value, .int t_bad, .ref (a_t 18), .ref (a_t 19), .ref (a_t 20), .int t_wide, .int t_lost, .ref (a_t 23), .long t_det, .ref (a_t 25), .int t_mask, .int t_mode, .int t_wanted, .int t_orders, .int t_foundAt, .long t_foundBy, .ref (a_t 32), .ref (a_t 33), .int t_unlikes, .ref (a_t 35), .ref (a_t 36)])), ((a_t 1), .inl (g.2.2.1 0, 27, .inl t_mem)), ((a_t 20), .inl (g.2.2.1 0, 8, .inl t_row))] sz) [((a_t 0), .inr (7, [.ref (a_t 1), .ref (a_t 2), .int t_acted, .ref (a_t 4), .ref (a_t 5), .ref (a_t 6), .ref (a_t 7), .ref (a_t 8), .ref (a_t 9), .int t_taped, .int t_faultKind, .int t_faultPlace, .int t_at, .int t_begin, .int t_token, .int t_value, .int t_bad, .ref (a_t 18), .ref (a_t 19), .ref (a_t 20), .int o_t_wide, .int o_t_lost, .ref (a_t 23), .long t_det, .ref (a_t 25), .int t_mask, .int t_mode, .int t_wanted, .int t_orders, .int t_foundAt, .long t_foundBy, .ref (a_t 32), .ref (a_t 33), .int t_unlikes, .ref (a_t 35), .ref (a_t 36)])), ((a_t 1), .inl (g.2.2.1 0, 27, .inl t_mem)), ((a_t 20), .inl (g.2.2.1 0, 8, .inl o_t_row))]) (va_A [((a_t 0), .inr (7, [.ref (a_t 1), .ref (a_t 2), .int t_acted, .ref (a_t 4), .ref (a_t 5), .ref (a_t 6), .ref (a_t 7), .ref (a_t 8), .ref (a_t 9), .int t_taped, .int t_faultKind, .int t_faultPlace, .int t_at, .int t_begin, .int t_token, .int t_value, .int t_bad, .ref (a_t 18), .ref (a_t 19), .ref (a_t 20), .int t_wide, .int t_lost, .ref (a_t 23), .long t_det, .ref (a_t 25), .int t_mask, .int t_mode, .int t_wanted, .int t_orders, .int t_foundAt, .long t_foundBy, .ref (a_t 32), .ref (a_t 33), .int t_unlikes, .ref (a_t 35), .ref (a_t 36)])), ((a_t 1), .inl (g.2.2.1 0, 27, .inl t_mem)), ((a_t 20), .inl (g.2.2.1 0, 8, .inl t_row))] sz)) 0 0 (va_A [((a_t 0), .inr (7, [.ref (a_t 1), .ref (a_t 2), .int t_acted, .ref (a_t 4), .ref (a_t 5), .ref (a_t 6), .ref (a_t 7), .ref (a_t 8), .ref (a_t 9), .int t_taped, .int t_faultKind, .int t_faultPlace, .int t_at, .int t_begin, .int t_token, .int t_value, .int t_bad, .ref (a_t 18), .ref (a_t 19), .ref (a_t 20), .int t_wide, .int t_lost, .ref (a_t 23), .long t_det, .ref (a_t 25), .int t_mask, .int t_mode, .int t_wanted, .int t_orders, .int t_foundAt, .long t_foundBy, .ref (a_t 32), .ref (a_t 33), .int t_unlikes, .ref (a_t 35), .ref (a_t 36)])), ((a_t 1), .inl (g.2.2.1 0, 27, .inl t_mem)), ((a_t 20), .inl (g.2.2.1 0, 8, .inl t_row))] sz) := by
  refine rw_meti (by decide) (Nat.le_of_ble_eq_true rfl) (lv0 := [(0, .ref ((a_t 0))), (1, .int v1)]) rfl ?_
  intro p e s m args below meth c ls Q A cx hret hG hAb hb0 hA hP hD hl
  have hx := cx.1
  have hb := cx.2.1
  have hG0 := hG
  have hGk : ∀ {H : Heap} {locs : List Loc}, va_S A s.heap H locs → GE g s H := fun hS => hG0.keptS hAb hS
  have hSb : ∀ {H : Heap} {locs : List Loc}, va_S A s.heap H locs → va_S (fun a => g.1 ≤ a) s.heap H locs := fun hS => ⟨hS.1, fun q h1 h2 => hS.2.1 q h1 (fun z => h2 (hAb q z)), fun l hl => hAb _ (hS.2.2 l hl)⟩
  have hS : va_S A s.heap s.heap [] := va_S.rf
  have hrt : ∀ (u : Nat → Nat) (pc : Nat) (ls : Array Slot) (v : Int32) (x_t_row : Nat → Int32) (x_t_wide : Int32) (x_t_lost : Int32) (H : Heap) (locs : List Loc), decode cX8_worst pc = .ok (.ireturn, 1) → some (v, x_t_row, x_t_wide, x_t_lost) = some (o, o_t_row, o_t_wide, o_t_lost) → va_P g.2.1 vwCl [((a_t 0), .inr (7, [.ref (a_t 1), .ref (a_t 2), .int t_acted, .ref (a_t 4), .ref (a_t 5), .ref (a_t 6), .ref (a_t 7), .ref (a_t 8), .ref (a_t 9), .int t_taped, .int t_faultKind, .int t_faultPlace, .int t_at, .int t_begin, .int t_token, .int t_value, .int t_bad, .ref (a_t 18), .ref (a_t 19), .ref (a_t 20), .int x_t_wide, .int x_t_lost, .ref (a_t 23), .long t_det, .ref (a_t 25), .int t_mask, .int t_mode, .int t_wanted, .int t_orders, .int t_foundAt, .long t_foundBy, .ref (a_t 32), .ref (a_t 33), .int t_unlikes, .ref (a_t 35), .ref (a_t 36)])), ((a_t 1), .inl (g.2.2.1 0, 27, .inl t_mem)), ((a_t 20), .inl (g.2.2.1 0, 8, .inl x_t_row))] H → va_D A [((a_t 0), .inr (7, [.ref (a_t 1), .ref (a_t 2), .int t_acted, .ref (a_t 4), .ref (a_t 5), .ref (a_t 6), .ref (a_t 7), .ref (a_t 8), .ref (a_t 9), .int t_taped, .int t_faultKind, .int t_faultPlace, .int t_at, .int t_begin, .int t_token, .int t_value, .int t_bad, .ref (a_t 18), .ref (a_t 19), .ref (a_t 20), .int x_t_wide, .int x_t_lost, .ref (a_t 23), .long t_det, .ref (a_t 25), .int t_mask, .int t_mode, .int t_wanted, .int t_orders, .int t_foundAt, .long t_foundBy, .ref (a_t 32), .ref (a_t 33), .int t_unlikes, .ref (a_t 35), .ref (a_t 36)])), ((a_t 1), .inl (g.2.2.1 0, 27, .inl t_mem)), ((a_t 20), .inl (g.2.2.1 0, 8, .inl x_t_row))] → va_S A s.heap H locs → W p l e ⟨4, 0, 0, 102⟩ s m args below meth c H locs 0 0 Q (F0 m pc ls [.int v]) := by
    intro u pc ls v x_t_row x_t_wide x_t_lost H locs hd h hP hD hS
    cases h
    exact hret u _ _ _ _ _ hd rfl hP hD hS
  have w85 : ∀ (k30 : (Nat → Int32) → (Nat → Int32) → Int32 → Int32 → Int32 → Int32 → Int32 → Option (Int32 × (Nat → Int32) × Int32 × Int32)) (hk30 : ∀ (t_row : Nat → Int32) (t_wide : Int32) (t_lost : Int32) (v1 : Int32) (v2 : Int32) (v3 : Int32) (H : Heap) (locs : List Loc), va_P g.2.1 vwCl [((a_t 0), .inr (7, [.ref (a_t 1), .ref (a_t 2), .int t_acted, .ref (a_t 4), .ref (a_t 5), .ref (a_t 6), .ref (a_t 7), .ref (a_t 8), .ref (a_t 9), .int t_taped, .int t_faultKind, .int t_faultPlace, .int t_at, .int t_begin, .int t_token, .int t_value, .int t_bad, .ref (a_t 18), .ref (a_t 19), .ref (a_t 20), .int t_wide, .int t_lost, .ref (a_t 23), .long t_det, .ref (a_t 25), .int t_mask, .int t_mode, .int t_wanted, .int t_orders, .int t_foundAt, .long t_foundBy, .ref (a_t 32), .ref (a_t 33), .int t_unlikes, .ref (a_t 35), .ref (a_t 36)])), ((a_t 1), .inl (g.2.2.1 0, 27, .inl t_mem)), ((a_t 20), .inl (g.2.2.1 0, 8, .inl t_row))] H → va_D A [((a_t 0), .inr (7, [.ref (a_t 1), .ref (a_t 2), .int t_acted, .ref (a_t 4), .ref (a_t 5), .ref (a_t 6), .ref (a_t 7), .ref (a_t 8), .ref (a_t 9), .int t_taped, .int t_faultKind, .int t_faultPlace, .int t_at, .int t_begin, .int t_token, .int t_value, .int t_bad, .ref (a_t 18), .ref (a_t 19), .ref (a_t 20), .int t_wide, .int t_lost, .ref (a_t 23), .long t_det, .ref (a_t 25), .int t_mask, .int t_mode, .int t_wanted, .int t_orders, .int t_foundAt, .long t_foundBy, .ref (a_t 32), .ref (a_t 33), .int t_unlikes, .ref (a_t 35), .ref (a_t 36)])), ((a_t 1), .inl (g.2.2.1 0, 27, .inl t_mem)), ((a_t 20), .inl (g.2.2.1 0, 8, .inl t_row))] → va_S A s.heap H locs → ∀ (ls : Array Slot), lv_has ls 4 [(0, .ref ((a_t 0))), (1, .int v1), (2, .int v2), (3, .int v3)] → k30 t_mem t_row t_wide t_lost v1 v2 v3 = some (o, o_t_row, o_t_wide, o_t_lost) → W p l e ⟨4, 0, 0, 102⟩ s m args below meth c H locs 0 0 Q (F0 m 30 ls [])) (t_row : Nat → Int32) (t_wide : Int32) (t_lost : Int32) (v1 : Int32) (v2 : Int32) (v3 : Int32) (H : Heap) (locs : List Loc), va_P g.2.1 vwCl [((a_t 0), .inr (7, [.ref (a_t 1), .ref (a_t 2), .int t_acted, .ref (a_t 4), .ref (a_t 5), .ref (a_t 6), .ref (a_t 7), .ref (a_t 8), .ref (a_t 9), .int t_taped, .int t_faultKind, .int t_faultPlace, .int t_at, .int t_begin, .int t_token, .int t_value, .int t_bad, .ref (a_t 18), .ref (a_t 19), .ref (a_t 20), .int t_wide, .int t_lost, .ref (a_t 23), .long t_det, .ref (a_t 25), .int t_mask, .int t_mode, .int t_wanted, .int t_orders, .int t_foundAt, .long t_foundBy, .ref (a_t 32), .ref (a_t 33), .int t_unlikes, .ref (a_t 35), .ref (a_t 36)])), ((a_t 1), .inl (g.2.2.1 0, 27, .inl t_mem)), ((a_t 20), .inl (g.2.2.1 0, 8, .inl t_row))] H → va_D A [((a_t 0), .inr (7, [.ref (a_t 1), .ref (a_t 2), .int t_acted, .ref (a_t 4), .ref (a_t 5), .ref (a_t 6), .ref (a_t 7), .ref (a_t 8), .ref (a_t 9), .int t_taped, .int t_faultKind, .int t_faultPlace, .int t_at, .int t_begin, .int t_token, .int t_value, .int t_bad, .ref (a_t 18), .ref (a_t 19), .ref (a_t 20), .int t_wide, .int t_lost, .ref (a_t 23), .long t_det, .ref (a_t 25), .int t_mask, .int t_mode, .int t_wanted, .int t_orders, .int t_foundAt, .long t_foundBy, .ref (a_t 32), .ref (a_t 33), .int t_unlikes, .ref (a_t 35), .ref (a_t 36)])), ((a_t 1), .inl (g.2.2.1 0, 27, .inl t_mem)), ((a_t 20), .inl (g.2.2.1 0, 8, .inl t_row))] → va_S A s.heap H locs → ∀ (ls : Array Slot), lv_has ls 4 [(0, .ref ((a_t 0))), (1, .int v1), (2, .int v2), (3, .int v3)] → fX8_worst_85 k30 t_mem t_row t_wide t_lost v1 v2 v3 = some (o, o_t_row, o_t_wide, o_t_lost) → W p l e ⟨4, 0, 0, 102⟩ s m args below meth c H locs 0 0 Q (F0 m 85 ls []) := by
    intro k30 hk30 t_row t_wide t_lost v1 v2 v3 H locs hP hD hS ls hl h
    unfold fX8_worst_85 at h
    have hG := hGk hS
    refine lv_iinc (v := v3 + 1) (lv' := [(3, .int (v3 + 1)), (0, .ref ((a_t 0))), (1, .int v1), (2, .int v2)]) hx hb dX8_worst_85 hl (k := 3) rfl rfl (by decide) rfl (fun ls hl => ?_)
    refine lv_goto (tgt := 30) hx hb dX8_worst_88 (by decide) ?_
    exact hk30 t_row t_wide t_lost v1 v2 (v3 + 1) _ _ hP hD hS _ (lv_sub hl [1, 2, 3, 0] rfl) h
  have w83 : ∀ (k30 : (Nat → Int32) → (Nat → Int32) → Int32 → Int32 → Int32 → Int32 → Int32 → Option (Int32 × (Nat → Int32) × Int32 × Int32)) (hk30 : ∀ (t_row : Nat → Int32) (t_wide : Int32) (t_lost : Int32) (v1 : Int32) (v2 : Int32) (v3 : Int32) (H : Heap) (locs : List Loc), va_P g.2.1 vwCl [((a_t 0), .inr (7, [.ref (a_t 1), .ref (a_t 2), .int t_acted, .ref (a_t 4), .ref (a_t 5), .ref (a_t 6), .ref (a_t 7), .ref (a_t 8), .ref (a_t 9), .int t_taped, .int t_faultKind, .int t_faultPlace, .int t_at, .int t_begin, .int t_token, .int t_value, .int t_bad, .ref (a_t 18), .ref (a_t 19), .ref (a_t 20), .int t_wide, .int t_lost, .ref (a_t 23), .long t_det, .ref (a_t 25), .int t_mask, .int t_mode, .int t_wanted, .int t_orders, .int t_foundAt, .long t_foundBy, .ref (a_t 32), .ref (a_t 33), .int t_unlikes, .ref (a_t 35), .ref (a_t 36)])), ((a_t 1), .inl (g.2.2.1 0, 27, .inl t_mem)), ((a_t 20), .inl (g.2.2.1 0, 8, .inl t_row))] H → va_D A [((a_t 0), .inr (7, [.ref (a_t 1), .ref (a_t 2), .int t_acted, .ref (a_t 4), .ref (a_t 5), .ref (a_t 6), .ref (a_t 7), .ref (a_t 8), .ref (a_t 9), .int t_taped, .int t_faultKind, .int t_faultPlace, .int t_at, .int t_begin, .int t_token, .int t_value, .int t_bad, .ref (a_t 18), .ref (a_t 19), .ref (a_t 20), .int t_wide, .int t_lost, .ref (a_t 23), .long t_det, .ref (a_t 25), .int t_mask, .int t_mode, .int t_wanted, .int t_orders, .int t_foundAt, .long t_foundBy, .ref (a_t 32), .ref (a_t 33), .int t_unlikes, .ref (a_t 35), .ref (a_t 36)])), ((a_t 1), .inl (g.2.2.1 0, 27, .inl t_mem)), ((a_t 20), .inl (g.2.2.1 0, 8, .inl t_row))] → va_S A s.heap H locs → ∀ (ls : Array Slot), lv_has ls 4 [(0, .ref ((a_t 0))), (1, .int v1), (2, .int v2), (3, .int v3)] → k30 t_mem t_row t_wide t_lost v1 v2 v3 = some (o, o_t_row, o_t_wide, o_t_lost) → W p l e ⟨4, 0, 0, 102⟩ s m args below meth c H locs 0 0 Q (F0 m 30 ls [])) (t_row : Nat → Int32) (t_wide : Int32) (t_lost : Int32) (v1 : Int32) (v3 : Int32) (H : Heap) (locs : List Loc), va_P g.2.1 vwCl [((a_t 0), .inr (7, [.ref (a_t 1), .ref (a_t 2), .int t_acted, .ref (a_t 4), .ref (a_t 5), .ref (a_t 6), .ref (a_t 7), .ref (a_t 8), .ref (a_t 9), .int t_taped, .int t_faultKind, .int t_faultPlace, .int t_at, .int t_begin, .int t_token, .int t_value, .int t_bad, .ref (a_t 18), .ref (a_t 19), .ref (a_t 20), .int t_wide, .int t_lost, .ref (a_t 23), .long t_det, .ref (a_t 25), .int t_mask, .int t_mode, .int t_wanted, .int t_orders, .int t_foundAt, .long t_foundBy, .ref (a_t 32), .ref (a_t 33), .int t_unlikes, .ref (a_t 35), .ref (a_t 36)])), ((a_t 1), .inl (g.2.2.1 0, 27, .inl t_mem)), ((a_t 20), .inl (g.2.2.1 0, 8, .inl t_row))] H → va_D A [((a_t 0), .inr (7, [.ref (a_t 1), .ref (a_t 2), .int t_acted, .ref (a_t 4), .ref (a_t 5), .ref (a_t 6), .ref (a_t 7), .ref (a_t 8), .ref (a_t 9), .int t_taped, .int t_faultKind, .int t_faultPlace, .int t_at, .int t_begin, .int t_token, .int t_value, .int t_bad, .ref (a_t 18), .ref (a_t 19), .ref (a_t 20), .int t_wide, .int t_lost, .ref (a_t 23), .long t_det, .ref (a_t 25), .int t_mask, .int t_mode, .int t_wanted, .int t_orders, .int t_foundAt, .long t_foundBy, .ref (a_t 32), .ref (a_t 33), .int t_unlikes, .ref (a_t 35), .ref (a_t 36)])), ((a_t 1), .inl (g.2.2.1 0, 27, .inl t_mem)), ((a_t 20), .inl (g.2.2.1 0, 8, .inl t_row))] → va_S A s.heap H locs → ∀ (ls : Array Slot), lv_has ls 4 [(0, .ref ((a_t 0))), (1, .int v1), (3, .int v3)] → fX8_worst_83 k30 t_mem t_row t_wide t_lost v1 v3 = some (o, o_t_row, o_t_wide, o_t_lost) → W p l e ⟨4, 0, 0, 102⟩ s m args below meth c H locs 0 0 Q (F0 m 83 ls []) := by
    intro k30 hk30 t_row t_wide t_lost v1 v3 H locs hP hD hS ls hl h
    unfold fX8_worst_83 at h
    have hG := hGk hS
    refine lv_iload_n hx hb dX8_worst_83 rfl (lv_at hl 2 rfl) ?_
    refine lv_istore_n (lv' := [(2, .int v3), (0, .ref ((a_t 0))), (1, .int v1), (3, .int v3)]) hx hb dX8_worst_84 rfl hl (by decide) rfl (fun ls hl => ?_)
    exact w85 _ hk30 t_row t_wide t_lost v1 v3 v3 _ _ hP hD hS _ (lv_sub hl [1, 2, 0, 3] rfl) h
  have w30 : ∀ (n : Nat) (t_row : Nat → Int32) (t_wide : Int32) (t_lost : Int32) (v1 : Int32) (v2 : Int32) (v3 : Int32) (H : Heap) (locs : List Loc), va_P g.2.1 vwCl [((a_t 0), .inr (7, [.ref (a_t 1), .ref (a_t 2), .int t_acted, .ref (a_t 4), .ref (a_t 5), .ref (a_t 6), .ref (a_t 7), .ref (a_t 8), .ref (a_t 9), .int t_taped, .int t_faultKind, .int t_faultPlace, .int t_at, .int t_begin, .int t_token, .int t_value, .int t_bad, .ref (a_t 18), .ref (a_t 19), .ref (a_t 20), .int t_wide, .int t_lost, .ref (a_t 23), .long t_det, .ref (a_t 25), .int t_mask, .int t_mode, .int t_wanted, .int t_orders, .int t_foundAt, .long t_foundBy, .ref (a_t 32), .ref (a_t 33), .int t_unlikes, .ref (a_t 35), .ref (a_t 36)])), ((a_t 1), .inl (g.2.2.1 0, 27, .inl t_mem)), ((a_t 20), .inl (g.2.2.1 0, 8, .inl t_row))] H → va_D A [((a_t 0), .inr (7, [.ref (a_t 1), .ref (a_t 2), .int t_acted, .ref (a_t 4), .ref (a_t 5), .ref (a_t 6), .ref (a_t 7), .ref (a_t 8), .ref (a_t 9), .int t_taped, .int t_faultKind, .int t_faultPlace, .int t_at, .int t_begin, .int t_token, .int t_value, .int t_bad, .ref (a_t 18), .ref (a_t 19), .ref (a_t 20), .int t_wide, .int t_lost, .ref (a_t 23), .long t_det, .ref (a_t 25), .int t_mask, .int t_mode, .int t_wanted, .int t_orders, .int t_foundAt, .long t_foundBy, .ref (a_t 32), .ref (a_t 33), .int t_unlikes, .ref (a_t 35), .ref (a_t 36)])), ((a_t 1), .inl (g.2.2.1 0, 27, .inl t_mem)), ((a_t 20), .inl (g.2.2.1 0, 8, .inl t_row))] → va_S A s.heap H locs → ∀ (ls : Array Slot), lv_has ls 4 [(0, .ref ((a_t 0))), (1, .int v1), (2, .int v2), (3, .int v3)] → fX8_worst_30  n t_mem t_row t_wide t_lost v1 v2 v3 = some (o, o_t_row, o_t_wide, o_t_lost) → W p l e ⟨4, 0, 0, 102⟩ s m args below meth c H locs 0 0 Q (F0 m 30 ls []) := by
    intro n
    induction n with
    | zero => intro t_row t_wide t_lost v1 v2 v3 H locs hP hD hS ls hl h; cases (fX8_worst_30_z  t_mem t_row t_wide t_lost v1 v2 v3).symm.trans h
    | succ n ih =>
    intro t_row t_wide t_lost v1 v2 v3 H locs hP hD hS ls hl h
    have h := (fX8_worst_30_s  n t_mem t_row t_wide t_lost v1 v2 v3).symm.trans h
    have hG := hGk hS
    refine lv_iload_n hx hb dX8_worst_30 rfl (lv_at hl 3 rfl) ?_
    refine lv_aload_n hx hb dX8_worst_31 rfl (lv_at hl 0 rfl) ?_
    refine xa_get (C := RX8) (T := TX8) (N := 36) cx hG hP 0 rfl rfl uX8 20 (by decide) lf_X8_206 rfl dX8_worst_32 ?_
    refine lv_icmp_ge (tgt := 91) hx hb dX8_worst_35 (by decide) (fun c12 => ?_) (fun c12 => ?_)
    · have h := itp c12 h
      refine lv_iload_n hx hb dX8_worst_91 rfl (lv_at hl 2 rfl) ?_
      exact hrt (fun _ => 0) _ _ v2 t_row t_wide t_lost _ _ dX8_worst_92 h (hP.sub [0, 1, 2] rfl) (hD.sub [0, 1, 2] (by decide) rfl) hS
    · have h := itn c12 h
      refine lv_iload_n hx hb dX8_worst_38 rfl (lv_at hl 2 rfl) ?_
      refine lv_iconst (v := -1) hx hb dX8_worst_39 (by decide) ?_
      refine lv_icmp_eq (tgt := 83) hx hb dX8_worst_40 (by decide) (fun c13 => ?_) (fun c13 => ?_)
      · have h := itp c13 h
        exact w83 _ ih t_row t_wide t_lost v1 v3 _ _ hP hD hS _ (lv_sub hl [0, 1, 3] rfl) h
      · have h := itn c13 h
        refine lv_iload_n hx hb dX8_worst_43 rfl (lv_at hl 1 rfl) ?_
        refine lv_iconst (v := 2) hx hb dX8_worst_44 (by decide) ?_
        refine lv_icmp_ne (tgt := 67) hx hb dX8_worst_45 (by decide) (fun c14 => ?_) (fun c14 => ?_)
        · have h := itn c14 h
          refine lv_aload_n hx hb dX8_worst_67 rfl (lv_at hl 0 rfl) ?_
          refine lv_iload_n hx hb dX8_worst_68 rfl (lv_at hl 3 rfl) ?_
          refine lv_iload_n hx hb dX8_worst_69 rfl (lv_at hl 1 rfl) ?_
          obtain ⟨r16, w17, hr15, h⟩ := ob2_out h
          refine rw_l (WN := fun u18 => [((a_t 0), .inr (7, [.ref (a_t 1), .ref (a_t 2), .int t_acted, .ref (a_t 4), .ref (a_t 5), .ref (a_t 6), .ref (a_t 7), .ref (a_t 8), .ref (a_t 9), .int t_taped, .int t_faultKind, .int t_faultPlace, .int t_at, .int t_begin, .int t_token, .int t_value, .int t_bad, .ref (a_t 18), .ref (a_t 19), .ref (a_t 20), .int t_wide, .int w17, .ref (a_t 23), .long t_det, .ref (a_t 25), .int t_mask, .int t_mode, .int t_wanted, .int t_orders, .int t_foundAt, .long t_foundBy, .ref (a_t 32), .ref (a_t 33), .int t_unlikes, .ref (a_t 35), .ref (a_t 36)])), ((a_t 1), .inl (g.2.2.1 0, 27, .inl t_mem)), ((a_t 20), .inl (g.2.2.1 0, 8, .inl t_row))]) (wr := []) (runV (As := [.int v3, .int v1]) (rest := []) cx hl.1 (ctX8_lostBy l g H.size a_t t_acted t_taped t_faultKind t_faultPlace t_at t_begin t_token t_value t_bad t_wide t_lost t_det t_mask t_mode t_wanted t_orders t_foundAt t_foundBy t_unlikes t_mem t_row v3 v1 r16 w17 hr15) kmX8_lostBy kvX8_lostBy lm_X8_313 ⟨rfl, rfl⟩ ⟨Nat.le_of_ble_eq_true rfl, Nat.le_of_ble_eq_true rfl⟩ (rwV (q0 := 0) (ci := 7) hG (hP.sub [0, 1, 2] rfl) (hD.sub [0, 1, 2] (by decide) rfl) hAb hb0 hS hP rfl rfl) rfl rfl (Nat.le_of_ble_eq_true rfl) dX8_worst_70 ⟨Nat.le_of_ble_eq_true rfl, Nat.le_of_ble_eq_true rfl⟩) hP hD hS hA [0, 1, 2] [] rfl rfl (by decide) (by decide) (fun _ => rfl) (fun u18 H locs hP hD hS => ?_)
          have hG := hGk hS
          refine lv_aload_n hx hb dX8_worst_73 rfl (lv_at hl 0 rfl) ?_
          refine lv_iload_n hx hb dX8_worst_74 rfl (lv_at hl 2 rfl) ?_
          refine lv_iload_n hx hb dX8_worst_75 rfl (lv_at hl 1 rfl) ?_
          obtain ⟨r20, w21, hr19, h⟩ := ob2_out h
          refine rw_l (WN := fun u22 => [((a_t 0), .inr (7, [.ref (a_t 1), .ref (a_t 2), .int t_acted, .ref (a_t 4), .ref (a_t 5), .ref (a_t 6), .ref (a_t 7), .ref (a_t 8), .ref (a_t 9), .int t_taped, .int t_faultKind, .int t_faultPlace, .int t_at, .int t_begin, .int t_token, .int t_value, .int t_bad, .ref (a_t 18), .ref (a_t 19), .ref (a_t 20), .int t_wide, .int w21, .ref (a_t 23), .long t_det, .ref (a_t 25), .int t_mask, .int t_mode, .int t_wanted, .int t_orders, .int t_foundAt, .long t_foundBy, .ref (a_t 32), .ref (a_t 33), .int t_unlikes, .ref (a_t 35), .ref (a_t 36)])), ((a_t 1), .inl (g.2.2.1 0, 27, .inl t_mem)), ((a_t 20), .inl (g.2.2.1 0, 8, .inl t_row))]) (wr := []) (runV (As := [.int v2, .int v1]) (rest := [.long r16]) cx hl.1 (ctX8_lostBy l g H.size a_t t_acted t_taped t_faultKind t_faultPlace t_at t_begin t_token t_value t_bad t_wide w17 t_det t_mask t_mode t_wanted t_orders t_foundAt t_foundBy t_unlikes t_mem t_row v2 v1 r20 w21 hr19) kmX8_lostBy kvX8_lostBy lm_X8_313 ⟨rfl, rfl⟩ ⟨Nat.le_of_ble_eq_true rfl, Nat.le_of_ble_eq_true rfl⟩ (rwV (q0 := 0) (ci := 7) hG (hP.sub [0, 1, 2] rfl) (hD.sub [0, 1, 2] (by decide) rfl) hAb hb0 hS hP rfl rfl) rfl rfl (Nat.le_of_ble_eq_true rfl) dX8_worst_76 ⟨Nat.le_of_ble_eq_true rfl, Nat.le_of_ble_eq_true rfl⟩) hP hD hS hA [0, 1, 2] [] rfl rfl (by decide) (by decide) (fun _ => rfl) (fun u22 H locs hP hD hS => ?_)
          have hG := hGk hS
          refine W.lcmp hx hb dX8_worst_79 ?_
          refine lv_if_ge (tgt := 85) hx hb dX8_worst_80 (by decide) (fun c23 => ?_) (fun c23 => ?_)
          · have h := itp c23 h
            exact w85 _ ih t_row t_wide w21 v1 v2 v3 _ _ hP hD hS _ (lv_sub hl [0, 1, 2, 3] rfl) h
          · have h := itn c23 h
            exact w83 _ ih t_row t_wide w21 v1 v3 _ _ hP hD hS _ (lv_sub hl [0, 1, 3] rfl) h
        · have h := itp c14 h
          refine lv_aload_n hx hb dX8_worst_48 rfl (lv_at hl 0 rfl) ?_
          refine lv_iload_n hx hb dX8_worst_49 rfl (lv_at hl 3 rfl) ?_
          refine lv_iload_n hx hb dX8_worst_50 rfl (lv_at hl 1 rfl) ?_
          obtain ⟨r25, w26, hr24, h⟩ := ob2_out h
          refine rw_l (WN := fun u27 => [((a_t 0), .inr (7, [.ref (a_t 1), .ref (a_t 2), .int t_acted, .ref (a_t 4), .ref (a_t 5), .ref (a_t 6), .ref (a_t 7), .ref (a_t 8), .ref (a_t 9), .int t_taped, .int t_faultKind, .int t_faultPlace, .int t_at, .int t_begin, .int t_token, .int t_value, .int t_bad, .ref (a_t 18), .ref (a_t 19), .ref (a_t 20), .int t_wide, .int w26, .ref (a_t 23), .long t_det, .ref (a_t 25), .int t_mask, .int t_mode, .int t_wanted, .int t_orders, .int t_foundAt, .long t_foundBy, .ref (a_t 32), .ref (a_t 33), .int t_unlikes, .ref (a_t 35), .ref (a_t 36)])), ((a_t 1), .inl (g.2.2.1 0, 27, .inl t_mem)), ((a_t 20), .inl (g.2.2.1 0, 8, .inl t_row))]) (wr := []) (runV (As := [.int v3, .int v1]) (rest := []) cx hl.1 (ctX8_lostBy l g H.size a_t t_acted t_taped t_faultKind t_faultPlace t_at t_begin t_token t_value t_bad t_wide t_lost t_det t_mask t_mode t_wanted t_orders t_foundAt t_foundBy t_unlikes t_mem t_row v3 v1 r25 w26 hr24) kmX8_lostBy kvX8_lostBy lm_X8_313 ⟨rfl, rfl⟩ ⟨Nat.le_of_ble_eq_true rfl, Nat.le_of_ble_eq_true rfl⟩ (rwV (q0 := 0) (ci := 7) hG (hP.sub [0, 1, 2] rfl) (hD.sub [0, 1, 2] (by decide) rfl) hAb hb0 hS hP rfl rfl) rfl rfl (Nat.le_of_ble_eq_true rfl) dX8_worst_51 ⟨Nat.le_of_ble_eq_true rfl, Nat.le_of_ble_eq_true rfl⟩) hP hD hS hA [0, 1, 2] [] rfl rfl (by decide) (by decide) (fun _ => rfl) (fun u27 H locs hP hD hS => ?_)
          have hG := hGk hS
          refine lv_aload_n hx hb dX8_worst_54 rfl (lv_at hl 0 rfl) ?_
          refine lv_iload_n hx hb dX8_worst_55 rfl (lv_at hl 2 rfl) ?_
          refine lv_iload_n hx hb dX8_worst_56 rfl (lv_at hl 1 rfl) ?_
          obtain ⟨r29, w30, hr28, h⟩ := ob2_out h
          refine rw_l (WN := fun u31 => [((a_t 0), .inr (7, [.ref (a_t 1), .ref (a_t 2), .int t_acted, .ref (a_t 4), .ref (a_t 5), .ref (a_t 6), .ref (a_t 7), .ref (a_t 8), .ref (a_t 9), .int t_taped, .int t_faultKind, .int t_faultPlace, .int t_at, .int t_begin, .int t_token, .int t_value, .int t_bad, .ref (a_t 18), .ref (a_t 19), .ref (a_t 20), .int t_wide, .int w30, .ref (a_t 23), .long t_det, .ref (a_t 25), .int t_mask, .int t_mode, .int t_wanted, .int t_orders, .int t_foundAt, .long t_foundBy, .ref (a_t 32), .ref (a_t 33), .int t_unlikes, .ref (a_t 35), .ref (a_t 36)])), ((a_t 1), .inl (g.2.2.1 0, 27, .inl t_mem)), ((a_t 20), .inl (g.2.2.1 0, 8, .inl t_row))]) (wr := []) (runV (As := [.int v2, .int v1]) (rest := [.long r25]) cx hl.1 (ctX8_lostBy l g H.size a_t t_acted t_taped t_faultKind t_faultPlace t_at t_begin t_token t_value t_bad t_wide w26 t_det t_mask t_mode t_wanted t_orders t_foundAt t_foundBy t_unlikes t_mem t_row v2 v1 r29 w30 hr28) kmX8_lostBy kvX8_lostBy lm_X8_313 ⟨rfl, rfl⟩ ⟨Nat.le_of_ble_eq_true rfl, Nat.le_of_ble_eq_true rfl⟩ (rwV (q0 := 0) (ci := 7) hG (hP.sub [0, 1, 2] rfl) (hD.sub [0, 1, 2] (by decide) rfl) hAb hb0 hS hP rfl rfl) rfl rfl (Nat.le_of_ble_eq_true rfl) dX8_worst_57 ⟨Nat.le_of_ble_eq_true rfl, Nat.le_of_ble_eq_true rfl⟩) hP hD hS hA [0, 1, 2] [] rfl rfl (by decide) (by decide) (fun _ => rfl) (fun u31 H locs hP hD hS => ?_)
          have hG := hGk hS
          refine W.lcmp hx hb dX8_worst_60 ?_
          refine lv_if_le (tgt := 85) hx hb dX8_worst_61 (by decide) (fun c32 => ?_) (fun c32 => ?_)
          · have h := itp c32 h
            exact w85 _ ih t_row t_wide w30 v1 v2 v3 _ _ hP hD hS _ (lv_sub hl [0, 1, 2, 3] rfl) h
          · have h := itn c32 h
            refine lv_goto (tgt := 83) hx hb dX8_worst_64 (by decide) ?_
            exact w83 _ ih t_row t_wide w30 v1 v3 _ _ hP hD hS _ (lv_sub hl [0, 1, 3] rfl) h
  unfold fX8_worst at h
  refine lv_aload_n hx hb dX8_worst_0 rfl (lv_at hl 0 rfl) ?_
  obtain ⟨r1, hr2, h⟩ := bnd h
  refine ro_z (runV (As := []) (rest := []) cx hl.1 (ctX8_is l g a_t t_acted t_taped t_faultKind t_faultPlace t_at t_begin t_token t_value t_bad t_wide t_lost t_det t_mask t_mode t_wanted t_orders t_foundAt t_foundBy t_unlikes t_mem r1 hr2) kmX8_is kvX8_is lm_X8_236 ⟨rfl, rfl⟩ ⟨Nat.le_of_ble_eq_true rfl, Nat.le_of_ble_eq_true rfl⟩ (roV (q0 := 0) (ci := 7) hG (hP.sub [0, 1] rfl) hP rfl rfl) rfl rfl (Nat.le_of_ble_eq_true rfl) dX8_worst_1 ⟨Nat.le_of_ble_eq_true rfl, Nat.le_of_ble_eq_true rfl⟩) (fun hz3 => ?_)
  refine lv_if_eq (tgt := 19) hx hb dX8_worst_4 (by decide) (fun c4 => ?_) (fun c4 => ?_)
  · have h := itp c4 h
    refine lv_bipush (v := -2) hx hb dX8_worst_19 (by decide) ?_
    exact hrt (fun _ => 0) _ _ ((-2)) t_row t_wide t_lost _ _ dX8_worst_21 h (hP.sub [0, 1, 2] rfl) (hD.sub [0, 1, 2] (by decide) rfl) hS
  · have h := itn c4 h
    refine lv_iload_n hx hb dX8_worst_7 rfl (lv_at hl 1 rfl) ?_
    refine lv_i2l (v := v1.toInt64) hx hb dX8_worst_8 rfl ?_
    refine lv_lconst (v := 0) hx hb dX8_worst_9 (by decide) ?_
    refine lv_ldc2 (own := RX8) (v := 2) hx hb cx.2.2.2.1 (cx.2.2.2.2 _ cl_X8_239) dX8_worst_10 ?_
    refine ro_z (runS (As := [.long v1.toInt64, .long (0), .long (2)]) (rest := []) cx hl.1 (ctX8_in l g v1.toInt64 (0) (2) (fX8_in v1.toInt64 0 2) rfl) kmX8_in ksX8_in lm_X8_83 ⟨rfl, rfl⟩ ⟨Nat.le_of_ble_eq_true rfl, Nat.le_of_ble_eq_true rfl⟩ (roS hG (hP.sub [] rfl)) rfl rfl (Nat.le_of_ble_eq_true rfl) dX8_worst_13 ⟨Nat.le_of_ble_eq_true rfl, Nat.le_of_ble_eq_true rfl⟩) (fun hz5 => ?_)
    refine lv_if_ne (tgt := 22) hx hb dX8_worst_16 (by decide) (fun c6 => ?_) (fun c6 => ?_)
    · have h := itn c6 h
      refine lv_aload_n hx hb dX8_worst_22 rfl (lv_at hl 0 rfl) ?_
      obtain ⟨w8, w9, w10, hr7, h⟩ := ob3_out h
      refine rw_v (WN := fun u11 => [((a_t 0), .inr (7, [.ref (a_t 1), .ref (a_t 2), .int t_acted, .ref (a_t 4), .ref (a_t 5), .ref (a_t 6), .ref (a_t 7), .ref (a_t 8), .ref (a_t 9), .int t_taped, .int t_faultKind, .int t_faultPlace, .int t_at, .int t_begin, .int t_token, .int t_value, .int t_bad, .ref (a_t 18), .ref (a_t 19), .ref (a_t 20), .int w9, .int w10, .ref (a_t 23), .long t_det, .ref (a_t 25), .int t_mask, .int t_mode, .int t_wanted, .int t_orders, .int t_foundAt, .long t_foundBy, .ref (a_t 32), .ref (a_t 33), .int t_unlikes, .ref (a_t 35), .ref (a_t 36)])), ((a_t 1), .inl (g.2.2.1 0, 27, .inl t_mem)), ((a_t 20), .inl (g.2.2.1 0, 8, .inl w8))]) (wr := []) (runV (As := []) (rest := []) cx hl.1 (ctX8_laysPlate l g s.heap.size a_t t_acted t_taped t_faultKind t_faultPlace t_at t_begin t_token t_value t_bad t_wide t_lost t_det t_mask t_mode t_wanted t_orders t_foundAt t_foundBy t_unlikes t_mem t_row w8 w9 w10 hr7) kmX8_laysPlate kvX8_laysPlate lm_X8_243 ⟨rfl, rfl⟩ ⟨Nat.le_of_ble_eq_true rfl, Nat.le_of_ble_eq_true rfl⟩ (rwV (q0 := 0) (ci := 7) hG (hP.sub [0, 1, 2] rfl) (hD.sub [0, 1, 2] (by decide) rfl) hAb hb0 hS hP rfl rfl) rfl rfl (Nat.le_of_ble_eq_true rfl) dX8_worst_23 ⟨Nat.le_of_ble_eq_true rfl, Nat.le_of_ble_eq_true rfl⟩) hP hD hS hA [0, 1, 2] [] rfl rfl (by decide) (by decide) (fun _ => rfl) (fun u11 H locs hP hD hS => ?_)
      have hG := hGk hS
      refine lv_iconst (v := -1) hx hb dX8_worst_26 (by decide) ?_
      refine lv_istore_n (lv' := [(2, .int (-1)), (0, .ref ((a_t 0))), (1, .int v1)]) hx hb dX8_worst_27 rfl hl (by decide) rfl (fun ls hl => ?_)
      refine lv_iconst (v := 0) hx hb dX8_worst_28 (by decide) ?_
      refine lv_istore_n (lv' := [(3, .int (0)), (2, .int (-1)), (0, .ref ((a_t 0))), (1, .int v1)]) hx hb dX8_worst_29 rfl hl (by decide) rfl (fun ls hl => ?_)
      exact w30 FU w8 w9 w10 v1 (-1) 0 _ _ hP hD hS _ (lv_sub hl [2, 3, 1, 0] rfl) h
    · have h := itp c6 h
      refine lv_bipush (v := -2) hx hb dX8_worst_19 (by decide) ?_
      exact hrt (fun _ => 0) _ _ ((-2)) t_row t_wide t_lost _ _ dX8_worst_21 h (hP.sub [0, 1, 2] rfl) (hD.sub [0, 1, 2] (by decide) rfl) hS
-- X8_valueBy
theorem dX8_valueBy_0 : decode cX8_valueBy 0 = .ok (.iload_n 1, 1) := by decide +kernel
theorem dX8_valueBy_1 : decode cX8_valueBy 1 = .ok (.iconst 3, 1) := by decide +kernel
theorem dX8_valueBy_2 : decode cX8_valueBy 2 = .ok (.if_icmp .ne 12, 3) := by decide +kernel
theorem dX8_valueBy_5 : decode cX8_valueBy 5 = .ok (.aload_n 0, 1) := by decide +kernel
theorem dX8_valueBy_6 : decode cX8_valueBy 6 = .ok (.invokevirtual 254, 3) := by decide +kernel
theorem dX8_valueBy_9 : decode cX8_valueBy 9 = .ok (.ineg, 1) := by decide +kernel
theorem dX8_valueBy_10 : decode cX8_valueBy 10 = .ok (.i2l, 1) := by decide +kernel
theorem dX8_valueBy_11 : decode cX8_valueBy 11 = .ok (.goto 10, 3) := by decide +kernel
theorem dX8_valueBy_14 : decode cX8_valueBy 14 = .ok (.aload_n 0, 1) := by decide +kernel
theorem dX8_valueBy_15 : decode cX8_valueBy 15 = .ok (.iconst 2, 1) := by decide +kernel
theorem dX8_valueBy_16 : decode cX8_valueBy 16 = .ok (.iload_n 1, 1) := by decide +kernel
theorem dX8_valueBy_17 : decode cX8_valueBy 17 = .ok (.iload_n 1, 1) := by decide +kernel
theorem dX8_valueBy_18 : decode cX8_valueBy 18 = .ok (.invokevirtual 219, 3) := by decide +kernel
theorem dX8_valueBy_21 : decode cX8_valueBy 21 = .ok (.lreturn, 1) := by decide +kernel
noncomputable def fX8_valueBy  (t_mem : Nat → Int32) (t_row : Nat → Int32) (t_wide : Int32) (t_lost : Int32) (v1 : Int32) : Option (Int64) := (if v1 = 3 then (fX8_likesHere t_row t_wide).bind fun r4 => some ((-r4).toInt64) else (fX8_sum t_mem t_row t_wide t_lost 2 v1 v1).bind fun r2 => some r2)
set_option maxHeartbeats 4000000 in
set_option maxRecDepth 100000 in
theorem ctX8_valueBy (l : Launch) (g : GT) (a_t : Nat → Nat) (t_acted : Int32) (t_taped : Int32) (t_faultKind : Int32) (t_faultPlace : Int32) (t_at : Int32) (t_begin : Int32) (t_token : Int32) (t_value : Int32) (t_bad : Int32) (t_wide : Int32) (t_lost : Int32) (t_det : Int64) (t_mask : Int32) (t_mode : Int32) (t_wanted : Int32) (t_orders : Int32) (t_foundAt : Int32) (t_foundBy : Int64) (t_unlikes : Int32) (t_mem : Nat → Int32) (t_row : Nat → Int32) (v1 : Int32) (o : Int64) (h : fX8_valueBy t_mem t_row t_wide t_lost v1 = some o) : Met l yX8_valueBy (Cond.code yX8_valueBy cX8_valueBy 2 (some .long) :: Tw) ⟨2, 0, 0, 56⟩ (va_Pc [.ref ((a_t 0)), .int v1] (roB g [((a_t 0), .inr (7, [.ref (a_t 1), .ref (a_t 2), .int t_acted, .ref (a_t 4), .ref (a_t 5), .ref (a_t 6), .ref (a_t 7), .ref (a_t 8), .ref (a_t 9), .int t_taped, .int t_faultKind, .int t_faultPlace, .int t_at, .int t_begin, .int t_token, .int t_value, .int t_bad, .ref (a_t 18), .ref (a_t 19), .ref (a_t 20), .int t_wide, .int t_lost, .ref (a_t 23), .long t_det, .ref (a_t 25), .int t_mask, .int t_mode, .int t_wanted, .int t_orders, .int t_foundAt, .long t_foundBy, .ref (a_t 32), .ref (a_t 33), .int t_unlikes, .ref (a_t 35), .ref (a_t 36)])), ((a_t 1), .inl (g.2.2.1 0, 27, .inl t_mem)), ((a_t 20), .inl (g.2.2.1 0, 8, .inl t_row))])) (vp_Sl (fun x => x = o)) 0 0 (fun _ => False) := by
  refine ro_metl (by decide) (Nat.le_of_ble_eq_true rfl) (lv0 := [(0, .ref ((a_t 0))), (1, .int v1)]) rfl ?_
  intro p e s m args below meth c ls Q cx hret hG hP hl
  have hx := cx.1
  have hb := cx.2.1
  have hG0 := hG
  unfold fX8_valueBy at h
  refine lv_iload_n hx hb dX8_valueBy_0 rfl (lv_at hl 1 rfl) ?_
  refine lv_iconst (v := 3) hx hb dX8_valueBy_1 (by decide) ?_
  refine lv_icmp_ne (tgt := 14) hx hb dX8_valueBy_2 (by decide) (fun c1 => ?_) (fun c1 => ?_)
  · have h := itn c1 h
    refine lv_aload_n hx hb dX8_valueBy_14 rfl (lv_at hl 0 rfl) ?_
    refine lv_iconst (v := 2) hx hb dX8_valueBy_15 (by decide) ?_
    refine lv_iload_n hx hb dX8_valueBy_16 rfl (lv_at hl 1 rfl) ?_
    refine lv_iload_n hx hb dX8_valueBy_17 rfl (lv_at hl 1 rfl) ?_
    obtain ⟨r2, hr3, h⟩ := bnd h
    refine ro_l (runV (As := [.int (2), .int v1, .int v1]) (rest := []) cx hl.1 (ctX8_sum l g a_t t_acted t_taped t_faultKind t_faultPlace t_at t_begin t_token t_value t_bad t_wide t_lost t_det t_mask t_mode t_wanted t_orders t_foundAt t_foundBy t_unlikes t_mem t_row (2) v1 v1 r2 hr3) kmX8_sum kvX8_sum lm_X8_219 ⟨rfl, rfl⟩ ⟨Nat.le_of_ble_eq_true rfl, Nat.le_of_ble_eq_true rfl⟩ (roV (q0 := 0) (ci := 7) hG (hP.sub [0, 1, 2] rfl) hP rfl rfl) rfl rfl (Nat.le_of_ble_eq_true rfl) dX8_valueBy_18 ⟨Nat.le_of_ble_eq_true rfl, Nat.le_of_ble_eq_true rfl⟩) ?_
    exact hret _ _ _ dX8_valueBy_21 (Option.some.inj h)
  · have h := itp c1 h
    refine lv_aload_n hx hb dX8_valueBy_5 rfl (lv_at hl 0 rfl) ?_
    obtain ⟨r4, hr5, h⟩ := bnd h
    refine ro_i (runV (As := []) (rest := []) cx hl.1 (ctX8_likesHere l g a_t t_acted t_taped t_faultKind t_faultPlace t_at t_begin t_token t_value t_bad t_wide t_lost t_det t_mask t_mode t_wanted t_orders t_foundAt t_foundBy t_unlikes t_row r4 hr5) kmX8_likesHere kvX8_likesHere lm_X8_254 ⟨rfl, rfl⟩ ⟨Nat.le_of_ble_eq_true rfl, Nat.le_of_ble_eq_true rfl⟩ (roV (q0 := 0) (ci := 7) hG (hP.sub [0, 2] rfl) hP rfl rfl) rfl rfl (Nat.le_of_ble_eq_true rfl) dX8_valueBy_6 ⟨Nat.le_of_ble_eq_true rfl, Nat.le_of_ble_eq_true rfl⟩) ?_
    refine lv_ineg hx hb dX8_valueBy_9 ?_
    refine lv_i2l (v := (-r4).toInt64) hx hb dX8_valueBy_10 rfl ?_
    refine lv_goto (tgt := 21) hx hb dX8_valueBy_11 (by decide) ?_
    exact hret _ _ _ dX8_valueBy_21 (Option.some.inj h)
-- X8_farFromPlate
theorem dX8_farFromPlate_0 : decode cX8_farFromPlate 0 = .ok (.iconst 0, 1) := by decide +kernel
theorem dX8_farFromPlate_1 : decode cX8_farFromPlate 1 = .ok (.istore_n 1, 1) := by decide +kernel
theorem dX8_farFromPlate_2 : decode cX8_farFromPlate 2 = .ok (.iconst 0, 1) := by decide +kernel
theorem dX8_farFromPlate_3 : decode cX8_farFromPlate 3 = .ok (.istore_n 2, 1) := by decide +kernel
theorem dX8_farFromPlate_4 : decode cX8_farFromPlate 4 = .ok (.iload_n 2, 1) := by decide +kernel
theorem dX8_farFromPlate_5 : decode cX8_farFromPlate 5 = .ok (.aload_n 0, 1) := by decide +kernel
theorem dX8_farFromPlate_6 : decode cX8_farFromPlate 6 = .ok (.getfield 206, 3) := by decide +kernel
theorem dX8_farFromPlate_9 : decode cX8_farFromPlate 9 = .ok (.if_icmp .ge 35, 3) := by decide +kernel
theorem dX8_farFromPlate_12 : decode cX8_farFromPlate 12 = .ok (.iload_n 1, 1) := by decide +kernel
theorem dX8_farFromPlate_13 : decode cX8_farFromPlate 13 = .ok (.aload_n 0, 1) := by decide +kernel
theorem dX8_farFromPlate_14 : decode cX8_farFromPlate 14 = .ok (.getfield 57, 3) := by decide +kernel
theorem dX8_farFromPlate_17 : decode cX8_farFromPlate 17 = .ok (.iload_n 2, 1) := by decide +kernel
theorem dX8_farFromPlate_18 : decode cX8_farFromPlate 18 = .ok (.iaload, 1) := by decide +kernel
theorem dX8_farFromPlate_19 : decode cX8_farFromPlate 19 = .ok (.aload_n 0, 1) := by decide +kernel
theorem dX8_farFromPlate_20 : decode cX8_farFromPlate 20 = .ok (.getfield 21, 3) := by decide +kernel
theorem dX8_farFromPlate_23 : decode cX8_farFromPlate 23 = .ok (.bipush 19, 2) := by decide +kernel
theorem dX8_farFromPlate_25 : decode cX8_farFromPlate 25 = .ok (.iload_n 2, 1) := by decide +kernel
theorem dX8_farFromPlate_26 : decode cX8_farFromPlate 26 = .ok (.iadd, 1) := by decide +kernel
theorem dX8_farFromPlate_27 : decode cX8_farFromPlate 27 = .ok (.iaload, 1) := by decide +kernel
theorem dX8_farFromPlate_28 : decode cX8_farFromPlate 28 = .ok (.if_icmp .ne 7, 3) := by decide +kernel
theorem dX8_farFromPlate_31 : decode cX8_farFromPlate 31 = .ok (.iconst 0, 1) := by decide +kernel
theorem dX8_farFromPlate_32 : decode cX8_farFromPlate 32 = .ok (.goto 4, 3) := by decide +kernel
theorem dX8_farFromPlate_35 : decode cX8_farFromPlate 35 = .ok (.iconst 1, 1) := by decide +kernel
theorem dX8_farFromPlate_36 : decode cX8_farFromPlate 36 = .ok (.iadd, 1) := by decide +kernel
theorem dX8_farFromPlate_37 : decode cX8_farFromPlate 37 = .ok (.istore_n 1, 1) := by decide +kernel
theorem dX8_farFromPlate_38 : decode cX8_farFromPlate 38 = .ok (.iinc 2 1, 3) := by decide +kernel
theorem dX8_farFromPlate_41 : decode cX8_farFromPlate 41 = .ok (.goto (-37), 3) := by decide +kernel
theorem dX8_farFromPlate_44 : decode cX8_farFromPlate 44 = .ok (.iload_n 1, 1) := by decide +kernel
theorem dX8_farFromPlate_45 : decode cX8_farFromPlate 45 = .ok (.ireturn, 1) := by decide +kernel
noncomputable def fX8_farFromPlate_36 (k4 : (Nat → Int32) → (Nat → Int32) → Int32 → Int32 → Int32 → Option (Int32)) (t_mem : Nat → Int32) (t_row : Nat → Int32) (t_wide : Int32) (v2 : Int32) (z0 : Int32) (z1 : Int32) : Option (Int32) := k4 t_mem t_row t_wide (z0 + z1) (v2 + 1)
noncomputable def fX8_farFromPlate_4  : Nat → (Nat → Int32) → (Nat → Int32) → Int32 → Int32 → Int32 → Option (Int32)
  | 0, _, _, _, _, _ => none
  | n + 1, t_mem, t_row, t_wide, v1, v2 => (if t_wide ≤ v2 then some v1 else chk 8 v2 (chk 27 (19 + v2) ((if (t_row v2.toNatClampNeg) = (t_mem (19 + v2).toNatClampNeg) then fX8_farFromPlate_36 (fX8_farFromPlate_4 n) t_mem t_row t_wide v2 v1 0 else fX8_farFromPlate_36 (fX8_farFromPlate_4 n) t_mem t_row t_wide v2 v1 1))))
theorem fX8_farFromPlate_4_z  (t_mem : Nat → Int32) (t_row : Nat → Int32) (t_wide : Int32) (v1 : Int32) (v2 : Int32) : fX8_farFromPlate_4  0 t_mem t_row t_wide v1 v2 = none := rfl
theorem fX8_farFromPlate_4_s  (n : Nat) (t_mem : Nat → Int32) (t_row : Nat → Int32) (t_wide : Int32) (v1 : Int32) (v2 : Int32) : fX8_farFromPlate_4  (n + 1) t_mem t_row t_wide v1 v2 = (if t_wide ≤ v2 then some v1 else chk 8 v2 (chk 27 (19 + v2) ((if (t_row v2.toNatClampNeg) = (t_mem (19 + v2).toNatClampNeg) then fX8_farFromPlate_36 (fX8_farFromPlate_4 n) t_mem t_row t_wide v2 v1 0 else fX8_farFromPlate_36 (fX8_farFromPlate_4 n) t_mem t_row t_wide v2 v1 1)))) := rfl
noncomputable def fX8_farFromPlate  (t_mem : Nat → Int32) (t_row : Nat → Int32) (t_wide : Int32) : Option (Int32) := fX8_farFromPlate_4 FU t_mem t_row t_wide 0 0
set_option maxHeartbeats 4000000 in
set_option maxRecDepth 100000 in
theorem ctX8_farFromPlate (l : Launch) (g : GT) (a_t : Nat → Nat) (t_acted : Int32) (t_taped : Int32) (t_faultKind : Int32) (t_faultPlace : Int32) (t_at : Int32) (t_begin : Int32) (t_token : Int32) (t_value : Int32) (t_bad : Int32) (t_wide : Int32) (t_lost : Int32) (t_det : Int64) (t_mask : Int32) (t_mode : Int32) (t_wanted : Int32) (t_orders : Int32) (t_foundAt : Int32) (t_foundBy : Int64) (t_unlikes : Int32) (t_mem : Nat → Int32) (t_row : Nat → Int32) (o : Int32) (h : fX8_farFromPlate t_mem t_row t_wide = some o) : Met l yX8_farFromPlate (Cond.code yX8_farFromPlate cX8_farFromPlate 3 (some .int) :: Tw) ⟨0, 0, 0, 0⟩ (va_Pc [.ref ((a_t 0))] (roB g [((a_t 0), .inr (7, [.ref (a_t 1), .ref (a_t 2), .int t_acted, .ref (a_t 4), .ref (a_t 5), .ref (a_t 6), .ref (a_t 7), .ref (a_t 8), .ref (a_t 9), .int t_taped, .int t_faultKind, .int t_faultPlace, .int t_at, .int t_begin, .int t_token, .int t_value, .int t_bad, .ref (a_t 18), .ref (a_t 19), .ref (a_t 20), .int t_wide, .int t_lost, .ref (a_t 23), .long t_det, .ref (a_t 25), .int t_mask, .int t_mode, .int t_wanted, .int t_orders, .int t_foundAt, .long t_foundBy, .ref (a_t 32), .ref (a_t 33), .int t_unlikes, .ref (a_t 35), .ref (a_t 36)])), ((a_t 1), .inl (g.2.2.1 0, 27, .inl t_mem)), ((a_t 20), .inl (g.2.2.1 0, 8, .inl t_row))])) (vp_Si (fun x => x = o)) 0 0 (fun _ => False) := by
  refine ro_meti (by decide) (Nat.le_of_ble_eq_true rfl) (lv0 := [(0, .ref ((a_t 0)))]) rfl ?_
  intro p e s m args below meth c ls Q cx hret hG hP hl
  have hx := cx.1
  have hb := cx.2.1
  have hG0 := hG
  have w36 : ∀ (k4 : (Nat → Int32) → (Nat → Int32) → Int32 → Int32 → Int32 → Option (Int32)) (hk4 : ∀ (v1 : Int32) (v2 : Int32) (ls : Array Slot), lv_has ls 3 [(0, .ref ((a_t 0))), (1, .int v1), (2, .int v2)] → k4 t_mem t_row t_wide v1 v2 = some o → W p l e ⟨0, 0, 0, 0⟩ s m args below meth c s.heap [] 0 0 Q (F0 m 4 ls [])) (v2 : Int32) (z0 : Int32) (z1 : Int32) (ls : Array Slot), lv_has ls 3 [(0, .ref ((a_t 0))), (2, .int v2)] → fX8_farFromPlate_36 k4 t_mem t_row t_wide v2 z0 z1 = some o → W p l e ⟨0, 0, 0, 0⟩ s m args below meth c s.heap [] 0 0 Q (F0 m 36 ls [.int z1, .int z0]) := by
    intro k4 hk4 v2 z0 z1 ls hl h
    unfold fX8_farFromPlate_36 at h
    refine lv_iadd hx hb dX8_farFromPlate_36 ?_
    refine lv_istore_n (lv' := [(1, .int (z0 + z1)), (0, .ref ((a_t 0))), (2, .int v2)]) hx hb dX8_farFromPlate_37 rfl hl (by decide) rfl (fun ls hl => ?_)
    refine lv_iinc (v := v2 + 1) (lv' := [(2, .int (v2 + 1)), (1, .int (z0 + z1)), (0, .ref ((a_t 0)))]) hx hb dX8_farFromPlate_38 hl (k := 2) rfl rfl (by decide) rfl (fun ls hl => ?_)
    refine lv_goto (tgt := 4) hx hb dX8_farFromPlate_41 (by decide) ?_
    exact hk4 (z0 + z1) (v2 + 1) _ (lv_sub hl [2, 1, 0] rfl) h
  have w4 : ∀ (n : Nat) (v1 : Int32) (v2 : Int32) (ls : Array Slot), lv_has ls 3 [(0, .ref ((a_t 0))), (1, .int v1), (2, .int v2)] → fX8_farFromPlate_4  n t_mem t_row t_wide v1 v2 = some o → W p l e ⟨0, 0, 0, 0⟩ s m args below meth c s.heap [] 0 0 Q (F0 m 4 ls []) := by
    intro n
    induction n with
    | zero => intro v1 v2 ls hl h; cases (fX8_farFromPlate_4_z  t_mem t_row t_wide v1 v2).symm.trans h
    | succ n ih =>
    intro v1 v2 ls hl h
    have h := (fX8_farFromPlate_4_s  n t_mem t_row t_wide v1 v2).symm.trans h
    refine lv_iload_n hx hb dX8_farFromPlate_4 rfl (lv_at hl 2 rfl) ?_
    refine lv_aload_n hx hb dX8_farFromPlate_5 rfl (lv_at hl 0 rfl) ?_
    refine xa_get (C := RX8) (T := TX8) (N := 36) cx hG hP 0 rfl rfl uX8 20 (by decide) lf_X8_206 rfl dX8_farFromPlate_6 ?_
    refine lv_icmp_ge (tgt := 44) hx hb dX8_farFromPlate_9 (by decide) (fun c1 => ?_) (fun c1 => ?_)
    · have h := itp c1 h
      refine lv_iload_n hx hb dX8_farFromPlate_44 rfl (lv_at hl 1 rfl) ?_
      exact hret _ _ _ dX8_farFromPlate_45 (Option.some.inj h)
    · have h := itn c1 h
      refine lv_iload_n hx hb dX8_farFromPlate_12 rfl (lv_at hl 1 rfl) ?_
      refine lv_aload_n hx hb dX8_farFromPlate_13 rfl (lv_at hl 0 rfl) ?_
      refine xa_get (C := RX8) (T := TX8) (N := 36) cx hG hP 0 rfl rfl uX8 19 (by decide) lf_X8_57 rfl dX8_farFromPlate_14 ?_
      refine lv_iload_n hx hb dX8_farFromPlate_17 rfl (lv_at hl 2 rfl) ?_
      obtain ⟨hi2, h⟩ := chk_out h
      refine xa_iald cx hG hP 2 rfl hi2 rfl dX8_farFromPlate_18 ?_
      refine lv_aload_n hx hb dX8_farFromPlate_19 rfl (lv_at hl 0 rfl) ?_
      refine xa_get (C := RX8) (T := TX8) (N := 36) cx hG hP 0 rfl rfl uX8 0 (by decide) lf_X8_21 rfl dX8_farFromPlate_20 ?_
      refine lv_bipush (v := 19) hx hb dX8_farFromPlate_23 (by decide) ?_
      refine lv_iload_n hx hb dX8_farFromPlate_25 rfl (lv_at hl 2 rfl) ?_
      refine lv_iadd hx hb dX8_farFromPlate_26 ?_
      obtain ⟨hi3, h⟩ := chk_out h
      refine xa_iald cx hG hP 1 rfl hi3 rfl dX8_farFromPlate_27 ?_
      refine lv_icmp_ne (tgt := 35) hx hb dX8_farFromPlate_28 (by decide) (fun c4 => ?_) (fun c4 => ?_)
      · have h := itn c4 h
        refine lv_iconst (v := 1) hx hb dX8_farFromPlate_35 (by decide) ?_
        exact w36 _ ih v2 v1 1 _ (lv_sub hl [0, 2] rfl) h
      · have h := itp c4 h
        refine lv_iconst (v := 0) hx hb dX8_farFromPlate_31 (by decide) ?_
        refine lv_goto (tgt := 36) hx hb dX8_farFromPlate_32 (by decide) ?_
        exact w36 _ ih v2 v1 0 _ (lv_sub hl [0, 2] rfl) h
  unfold fX8_farFromPlate at h
  refine lv_iconst (v := 0) hx hb dX8_farFromPlate_0 (by decide) ?_
  refine lv_istore_n (lv' := [(1, .int (0)), (0, .ref ((a_t 0)))]) hx hb dX8_farFromPlate_1 rfl hl (by decide) rfl (fun ls hl => ?_)
  refine lv_iconst (v := 0) hx hb dX8_farFromPlate_2 (by decide) ?_
  refine lv_istore_n (lv' := [(2, .int (0)), (1, .int (0)), (0, .ref ((a_t 0)))]) hx hb dX8_farFromPlate_3 rfl hl (by decide) rfl (fun ls hl => ?_)
  exact w4 FU 0 0 _ (lv_sub hl [2, 1, 0] rfl) h
-- X8_finds
theorem dX8_finds_0 : decode cX8_finds 0 = .ok (.aload_n 0, 1) := by decide +kernel
theorem dX8_finds_1 : decode cX8_finds 1 = .ok (.aload_n 0, 1) := by decide +kernel
theorem dX8_finds_2 : decode cX8_finds 2 = .ok (.getfield 317, 3) := by decide +kernel
theorem dX8_finds_5 : decode cX8_finds 5 = .ok (.putfield 320, 3) := by decide +kernel
theorem dX8_finds_8 : decode cX8_finds 8 = .ok (.aload_n 0, 1) := by decide +kernel
theorem dX8_finds_9 : decode cX8_finds 9 = .ok (.lload_n 1, 1) := by decide +kernel
theorem dX8_finds_10 : decode cX8_finds 10 = .ok (.putfield 323, 3) := by decide +kernel
theorem dX8_finds_13 : decode cX8_finds 13 = .ok (.iconst 0, 1) := by decide +kernel
theorem dX8_finds_14 : decode cX8_finds 14 = .ok (.istore_n 3, 1) := by decide +kernel
theorem dX8_finds_15 : decode cX8_finds 15 = .ok (.iload_n 3, 1) := by decide +kernel
theorem dX8_finds_16 : decode cX8_finds 16 = .ok (.aload_n 0, 1) := by decide +kernel
theorem dX8_finds_17 : decode cX8_finds 17 = .ok (.getfield 206, 3) := by decide +kernel
theorem dX8_finds_20 : decode cX8_finds 20 = .ok (.if_icmp .ge 21, 3) := by decide +kernel
theorem dX8_finds_23 : decode cX8_finds 23 = .ok (.aload_n 0, 1) := by decide +kernel
theorem dX8_finds_24 : decode cX8_finds 24 = .ok (.getfield 67, 3) := by decide +kernel
theorem dX8_finds_27 : decode cX8_finds 27 = .ok (.iload_n 3, 1) := by decide +kernel
theorem dX8_finds_28 : decode cX8_finds 28 = .ok (.aload_n 0, 1) := by decide +kernel
theorem dX8_finds_29 : decode cX8_finds 29 = .ok (.getfield 57, 3) := by decide +kernel
theorem dX8_finds_32 : decode cX8_finds 32 = .ok (.iload_n 3, 1) := by decide +kernel
theorem dX8_finds_33 : decode cX8_finds 33 = .ok (.iaload, 1) := by decide +kernel
theorem dX8_finds_34 : decode cX8_finds 34 = .ok (.iastore, 1) := by decide +kernel
theorem dX8_finds_35 : decode cX8_finds 35 = .ok (.iinc 3 1, 3) := by decide +kernel
theorem dX8_finds_38 : decode cX8_finds 38 = .ok (.goto (-23), 3) := by decide +kernel
theorem dX8_finds_41 : decode cX8_finds 41 = .ok (.return_, 1) := by decide +kernel
noncomputable def fX8_finds_15  : Nat → (Nat → Int32) → Int32 → Int32 → Int64 → (Nat → Int32) → Int32 → Option (Int32 × Int64 × (Nat → Int32))
  | 0, _, _, _, _, _, _ => none
  | n + 1, t_row, t_wide, t_foundAt, t_foundBy, t_found, v3 => (if t_wide ≤ v3 then some (t_foundAt, t_foundBy, t_found) else chk 8 v3 (chk 8 v3 (fX8_finds_15 n t_row t_wide t_foundAt t_foundBy (upd t_found v3.toNatClampNeg (t_row v3.toNatClampNeg)) (v3 + 1))))
theorem fX8_finds_15_z  (t_row : Nat → Int32) (t_wide : Int32) (t_foundAt : Int32) (t_foundBy : Int64) (t_found : Nat → Int32) (v3 : Int32) : fX8_finds_15  0 t_row t_wide t_foundAt t_foundBy t_found v3 = none := rfl
theorem fX8_finds_15_s  (n : Nat) (t_row : Nat → Int32) (t_wide : Int32) (t_foundAt : Int32) (t_foundBy : Int64) (t_found : Nat → Int32) (v3 : Int32) : fX8_finds_15  (n + 1) t_row t_wide t_foundAt t_foundBy t_found v3 = (if t_wide ≤ v3 then some (t_foundAt, t_foundBy, t_found) else chk 8 v3 (chk 8 v3 (fX8_finds_15 n t_row t_wide t_foundAt t_foundBy (upd t_found v3.toNatClampNeg (t_row v3.toNatClampNeg)) (v3 + 1)))) := rfl
noncomputable def fX8_finds  (t_row : Nat → Int32) (t_wide : Int32) (t_orders : Int32) (t_foundAt : Int32) (t_foundBy : Int64) (t_found : Nat → Int32) (v1 : Int64) : Option (Int32 × Int64 × (Nat → Int32)) := fX8_finds_15 FU t_row t_wide t_orders v1 t_found 0
set_option maxHeartbeats 4000000 in
set_option maxRecDepth 100000 in
theorem ctX8_finds (l : Launch) (g : GT) (sz : Nat) (a_t : Nat → Nat) (t_acted : Int32) (t_taped : Int32) (t_faultKind : Int32) (t_faultPlace : Int32) (t_at : Int32) (t_begin : Int32) (t_token : Int32) (t_value : Int32) (t_bad : Int32) (t_wide : Int32) (t_lost : Int32) (t_det : Int64) (t_mask : Int32) (t_mode : Int32) (t_wanted : Int32) (t_orders : Int32) (t_foundAt : Int32) (t_foundBy : Int64) (t_unlikes : Int32) (t_row : Nat → Int32) (t_found : Nat → Int32) (v1 : Int64) (o_t_foundAt : Int32) (o_t_foundBy : Int64) (o_t_found : Nat → Int32) (h : fX8_finds t_row t_wide t_orders t_foundAt t_foundBy t_found v1 = some (o_t_foundAt, o_t_foundBy, o_t_found)) : Met l yX8_finds (Cond.code yX8_finds cX8_finds 4 none :: Tw) ⟨0, 0, 0, 0⟩ (va_Pc [.ref ((a_t 0)), .long v1] (rwB g [((a_t 0), .inr (7, [.ref (a_t 1), .ref (a_t 2), .int t_acted, .ref (a_t 4), .ref (a_t 5), .ref (a_t 6), .ref (a_t 7), .ref (a_t 8), .ref (a_t 9), .int t_taped, .int t_faultKind, .int t_faultPlace, .int t_at, .int t_begin, .int t_token, .int t_value, .int t_bad, .ref (a_t 18), .ref (a_t 19), .ref (a_t 20), .int t_wide, .int t_lost, .ref (a_t 23), .long t_det, .ref (a_t 25), .int t_mask, .int t_mode, .int t_wanted, .int t_orders, .int t_foundAt, .long t_foundBy, .ref (a_t 32), .ref (a_t 33), .int t_unlikes, .ref (a_t 35), .ref (a_t 36)])), ((a_t 20), .inl (g.2.2.1 0, 8, .inl t_row)), ((a_t 32), .inl (g.2.2.1 0, 8, .inl t_found))] sz)) (va_Qv (fun (_ : Nat → Nat) => True) (fun u => rwE g (va_A [((a_t 0), .inr (7, [.ref (a_t 1), .ref (a_t 2), .int t_acted, .ref (a_t 4), .ref (a_t 5), .ref (a_t 6), .ref (a_t 7), .ref (a_t 8), .ref (a_t 9), .int t_taped, .int t_faultKind, .int t_faultPlace, .int t_at, .int t_begin, .int t_token, .int t_value, .int t_bad, .ref (a_t 18), .ref (a_t 19), .ref (a_t 20), .int t_wide, .int t_lost, .ref (a_t 23), .long t_det, .ref (a_t 25), .int t_mask, .int t_mode, .int t_wanted, .int t_orders, .int t_foundAt, .long t_foundBy, .ref (a_t 32), .ref (a_t 33), .int t_unlikes, .ref (a_t 35), .ref (a_t 36)])), ((a_t 20), .inl (g.2.2.1 0, 8, .inl t_row)), ((a_t 32), .inl (g.2.2.1 0, 8, .inl t_found))] sz) [((a_t 0), .inr (7, [.ref (a_t 1), .ref (a_t 2), .int t_acted, .ref (a_t 4), .ref (a_t 5), .ref (a_t 6), .ref (a_t 7), .ref (a_t 8), .ref (a_t 9), .int t_taped, .int t_faultKind, .int t_faultPlace, .int t_at, .int t_begin, .int t_token, .int t_value, .int t_bad, .ref (a_t 18), .ref (a_t 19), .ref (a_t 20), .int t_wide, .int t_lost, .ref (a_t 23), .long t_det, .ref (a_t 25), .int t_mask, .int t_mode, .int t_wanted, .int t_orders, .int o_t_foundAt, .long o_t_foundBy, .ref (a_t 32), .ref (a_t 33), .int t_unlikes, .ref (a_t 35), .ref (a_t 36)])), ((a_t 20), .inl (g.2.2.1 0, 8, .inl t_row)), ((a_t 32), .inl (g.2.2.1 0, 8, .inl o_t_found))]) (va_A [((a_t 0), .inr (7, [.ref (a_t 1), .ref (a_t 2), .int t_acted, .ref (a_t 4), .ref (a_t 5), .ref (a_t 6), .ref (a_t 7), .ref (a_t 8), .ref (a_t 9), .int t_taped, .int t_faultKind, .int t_faultPlace, .int t_at, .int t_begin, .int t_token, .int t_value, .int t_bad, .ref (a_t 18), .ref (a_t 19), .ref (a_t 20), .int t_wide, .int t_lost, .ref (a_t 23), .long t_det, .ref (a_t 25), .int t_mask, .int t_mode, .int t_wanted, .int t_orders, .int t_foundAt, .long t_foundBy, .ref (a_t 32), .ref (a_t 33), .int t_unlikes, .ref (a_t 35), .ref (a_t 36)])), ((a_t 20), .inl (g.2.2.1 0, 8, .inl t_row)), ((a_t 32), .inl (g.2.2.1 0, 8, .inl t_found))] sz)) 0 0 (va_A [((a_t 0), .inr (7, [.ref (a_t 1), .ref (a_t 2), .int t_acted, .ref (a_t 4), .ref (a_t 5), .ref (a_t 6), .ref (a_t 7), .ref (a_t 8), .ref (a_t 9), .int t_taped, .int t_faultKind, .int t_faultPlace, .int t_at, .int t_begin, .int t_token, .int t_value, .int t_bad, .ref (a_t 18), .ref (a_t 19), .ref (a_t 20), .int t_wide, .int t_lost, .ref (a_t 23), .long t_det, .ref (a_t 25), .int t_mask, .int t_mode, .int t_wanted, .int t_orders, .int t_foundAt, .long t_foundBy, .ref (a_t 32), .ref (a_t 33), .int t_unlikes, .ref (a_t 35), .ref (a_t 36)])), ((a_t 20), .inl (g.2.2.1 0, 8, .inl t_row)), ((a_t 32), .inl (g.2.2.1 0, 8, .inl t_found))] sz) := by
  refine rw_metv (by decide) (Nat.le_of_ble_eq_true rfl) (lv0 := [(0, .ref ((a_t 0))), (1, .long v1)]) rfl ?_
  intro p e s m args below meth c ls Q A cx hret hG hAb hb0 hA hP hD hl
  have hx := cx.1
  have hb := cx.2.1
  have hG0 := hG
  have hGk : ∀ {H : Heap} {locs : List Loc}, va_S A s.heap H locs → GE g s H := fun hS => hG0.keptS hAb hS
  have hSb : ∀ {H : Heap} {locs : List Loc}, va_S A s.heap H locs → va_S (fun a => g.1 ≤ a) s.heap H locs := fun hS => ⟨hS.1, fun q h1 h2 => hS.2.1 q h1 (fun z => h2 (hAb q z)), fun l hl => hAb _ (hS.2.2 l hl)⟩
  have hS : va_S A s.heap s.heap [] := va_S.rf
  have hrt : ∀ (u : Nat → Nat) (pc : Nat) (ls : Array Slot) (x_t_foundAt : Int32) (x_t_foundBy : Int64) (x_t_found : Nat → Int32) (H : Heap) (locs : List Loc), decode cX8_finds pc = .ok (.return_, 1) → some (x_t_foundAt, x_t_foundBy, x_t_found) = some (o_t_foundAt, o_t_foundBy, o_t_found) → va_P g.2.1 vwCl [((a_t 0), .inr (7, [.ref (a_t 1), .ref (a_t 2), .int t_acted, .ref (a_t 4), .ref (a_t 5), .ref (a_t 6), .ref (a_t 7), .ref (a_t 8), .ref (a_t 9), .int t_taped, .int t_faultKind, .int t_faultPlace, .int t_at, .int t_begin, .int t_token, .int t_value, .int t_bad, .ref (a_t 18), .ref (a_t 19), .ref (a_t 20), .int t_wide, .int t_lost, .ref (a_t 23), .long t_det, .ref (a_t 25), .int t_mask, .int t_mode, .int t_wanted, .int t_orders, .int x_t_foundAt, .long x_t_foundBy, .ref (a_t 32), .ref (a_t 33), .int t_unlikes, .ref (a_t 35), .ref (a_t 36)])), ((a_t 20), .inl (g.2.2.1 0, 8, .inl t_row)), ((a_t 32), .inl (g.2.2.1 0, 8, .inl x_t_found))] H → va_D A [((a_t 0), .inr (7, [.ref (a_t 1), .ref (a_t 2), .int t_acted, .ref (a_t 4), .ref (a_t 5), .ref (a_t 6), .ref (a_t 7), .ref (a_t 8), .ref (a_t 9), .int t_taped, .int t_faultKind, .int t_faultPlace, .int t_at, .int t_begin, .int t_token, .int t_value, .int t_bad, .ref (a_t 18), .ref (a_t 19), .ref (a_t 20), .int t_wide, .int t_lost, .ref (a_t 23), .long t_det, .ref (a_t 25), .int t_mask, .int t_mode, .int t_wanted, .int t_orders, .int x_t_foundAt, .long x_t_foundBy, .ref (a_t 32), .ref (a_t 33), .int t_unlikes, .ref (a_t 35), .ref (a_t 36)])), ((a_t 20), .inl (g.2.2.1 0, 8, .inl t_row)), ((a_t 32), .inl (g.2.2.1 0, 8, .inl x_t_found))] → va_S A s.heap H locs → W p l e ⟨0, 0, 0, 0⟩ s m args below meth c H locs 0 0 Q (F0 m pc ls []) := by
    intro u pc ls x_t_foundAt x_t_foundBy x_t_found H locs hd h hP hD hS
    cases h
    exact hret u _ _ _ _ hd hP hD hS
  have w15 : ∀ (n : Nat) (t_foundAt : Int32) (t_foundBy : Int64) (t_found : Nat → Int32) (v3 : Int32) (H : Heap) (locs : List Loc), va_P g.2.1 vwCl [((a_t 0), .inr (7, [.ref (a_t 1), .ref (a_t 2), .int t_acted, .ref (a_t 4), .ref (a_t 5), .ref (a_t 6), .ref (a_t 7), .ref (a_t 8), .ref (a_t 9), .int t_taped, .int t_faultKind, .int t_faultPlace, .int t_at, .int t_begin, .int t_token, .int t_value, .int t_bad, .ref (a_t 18), .ref (a_t 19), .ref (a_t 20), .int t_wide, .int t_lost, .ref (a_t 23), .long t_det, .ref (a_t 25), .int t_mask, .int t_mode, .int t_wanted, .int t_orders, .int t_foundAt, .long t_foundBy, .ref (a_t 32), .ref (a_t 33), .int t_unlikes, .ref (a_t 35), .ref (a_t 36)])), ((a_t 20), .inl (g.2.2.1 0, 8, .inl t_row)), ((a_t 32), .inl (g.2.2.1 0, 8, .inl t_found))] H → va_D A [((a_t 0), .inr (7, [.ref (a_t 1), .ref (a_t 2), .int t_acted, .ref (a_t 4), .ref (a_t 5), .ref (a_t 6), .ref (a_t 7), .ref (a_t 8), .ref (a_t 9), .int t_taped, .int t_faultKind, .int t_faultPlace, .int t_at, .int t_begin, .int t_token, .int t_value, .int t_bad, .ref (a_t 18), .ref (a_t 19), .ref (a_t 20), .int t_wide, .int t_lost, .ref (a_t 23), .long t_det, .ref (a_t 25), .int t_mask, .int t_mode, .int t_wanted, .int t_orders, .int t_foundAt, .long t_foundBy, .ref (a_t 32), .ref (a_t 33), .int t_unlikes, .ref (a_t 35), .ref (a_t 36)])), ((a_t 20), .inl (g.2.2.1 0, 8, .inl t_row)), ((a_t 32), .inl (g.2.2.1 0, 8, .inl t_found))] → va_S A s.heap H locs → ∀ (ls : Array Slot), lv_has ls 4 [(0, .ref ((a_t 0))), (3, .int v3)] → fX8_finds_15  n t_row t_wide t_foundAt t_foundBy t_found v3 = some (o_t_foundAt, o_t_foundBy, o_t_found) → W p l e ⟨0, 0, 0, 0⟩ s m args below meth c H locs 0 0 Q (F0 m 15 ls []) := by
    intro n
    induction n with
    | zero => intro t_foundAt t_foundBy t_found v3 H locs hP hD hS ls hl h; cases (fX8_finds_15_z  t_row t_wide t_foundAt t_foundBy t_found v3).symm.trans h
    | succ n ih =>
    intro t_foundAt t_foundBy t_found v3 H locs hP hD hS ls hl h
    have h := (fX8_finds_15_s  n t_row t_wide t_foundAt t_foundBy t_found v3).symm.trans h
    have hG := hGk hS
    refine lv_iload_n hx hb dX8_finds_15 rfl (lv_at hl 1 rfl) ?_
    refine lv_aload_n hx hb dX8_finds_16 rfl (lv_at hl 0 rfl) ?_
    refine xa_get (C := RX8) (T := TX8) (N := 36) cx hG hP 0 rfl rfl uX8 20 (by decide) lf_X8_206 rfl dX8_finds_17 ?_
    refine lv_icmp_ge (tgt := 41) hx hb dX8_finds_20 (by decide) (fun c1 => ?_) (fun c1 => ?_)
    · have h := itp c1 h
      exact hrt (fun _ => 0) _ _ t_foundAt t_foundBy t_found _ _ dX8_finds_41 h (hP.sub [0, 1, 2] rfl) (hD.sub [0, 1, 2] (by decide) rfl) hS
    · have h := itn c1 h
      refine lv_aload_n hx hb dX8_finds_23 rfl (lv_at hl 0 rfl) ?_
      refine xa_get (C := RX8) (T := TX8) (N := 36) cx hG hP 0 rfl rfl uX8 31 (by decide) lf_X8_67 rfl dX8_finds_24 ?_
      refine lv_iload_n hx hb dX8_finds_27 rfl (lv_at hl 1 rfl) ?_
      refine lv_aload_n hx hb dX8_finds_28 rfl (lv_at hl 0 rfl) ?_
      refine xa_get (C := RX8) (T := TX8) (N := 36) cx hG hP 0 rfl rfl uX8 19 (by decide) lf_X8_57 rfl dX8_finds_29 ?_
      refine lv_iload_n hx hb dX8_finds_32 rfl (lv_at hl 1 rfl) ?_
      obtain ⟨hi2, h⟩ := chk_out h
      refine xa_iald cx hG hP 1 rfl hi2 rfl dX8_finds_33 ?_
      obtain ⟨hi3, h⟩ := chk_out h
      refine xw_iast (ws' := [((a_t 0), .inr (7, [.ref (a_t 1), .ref (a_t 2), .int t_acted, .ref (a_t 4), .ref (a_t 5), .ref (a_t 6), .ref (a_t 7), .ref (a_t 8), .ref (a_t 9), .int t_taped, .int t_faultKind, .int t_faultPlace, .int t_at, .int t_begin, .int t_token, .int t_value, .int t_bad, .ref (a_t 18), .ref (a_t 19), .ref (a_t 20), .int t_wide, .int t_lost, .ref (a_t 23), .long t_det, .ref (a_t 25), .int t_mask, .int t_mode, .int t_wanted, .int t_orders, .int t_foundAt, .long t_foundBy, .ref (a_t 32), .ref (a_t 33), .int t_unlikes, .ref (a_t 35), .ref (a_t 36)])), ((a_t 20), .inl (g.2.2.1 0, 8, .inl t_row)), ((a_t 32), .inl (g.2.2.1 0, 8, .inl (upd t_found v3.toNatClampNeg (t_row v3.toNatClampNeg))))]) (k := v3.toNatClampNeg) cx hG hP hD hS 2 rfl hi3 rfl rfl dX8_finds_34 (fun H locs hP hD hS => ?_)
      have hG := hGk hS
      refine lv_iinc (v := v3 + 1) (lv' := [(3, .int (v3 + 1)), (0, .ref ((a_t 0)))]) hx hb dX8_finds_35 hl (k := 1) rfl rfl (by decide) rfl (fun ls hl => ?_)
      refine lv_goto (tgt := 15) hx hb dX8_finds_38 (by decide) ?_
      exact ih t_foundAt t_foundBy (upd t_found v3.toNatClampNeg (t_row v3.toNatClampNeg)) (v3 + 1) _ _ hP hD hS _ (lv_sub hl [1, 0] rfl) h
  unfold fX8_finds at h
  refine lv_aload_n hx hb dX8_finds_0 rfl (lv_at hl 0 rfl) ?_
  refine lv_aload_n hx hb dX8_finds_1 rfl (lv_at hl 0 rfl) ?_
  refine xa_get (C := RX8) (T := TX8) (N := 36) cx hG hP 0 rfl rfl uX8 28 (by decide) lf_X8_317 rfl dX8_finds_2 ?_
  refine xw_put (C := RX8) (T := TX8) (N := 36) (ty := .int) (v := .int t_orders) (ws' := [((a_t 0), .inr (7, [.ref (a_t 1), .ref (a_t 2), .int t_acted, .ref (a_t 4), .ref (a_t 5), .ref (a_t 6), .ref (a_t 7), .ref (a_t 8), .ref (a_t 9), .int t_taped, .int t_faultKind, .int t_faultPlace, .int t_at, .int t_begin, .int t_token, .int t_value, .int t_bad, .ref (a_t 18), .ref (a_t 19), .ref (a_t 20), .int t_wide, .int t_lost, .ref (a_t 23), .long t_det, .ref (a_t 25), .int t_mask, .int t_mode, .int t_wanted, .int t_orders, .int t_orders, .long t_foundBy, .ref (a_t 32), .ref (a_t 33), .int t_unlikes, .ref (a_t 35), .ref (a_t 36)])), ((a_t 20), .inl (g.2.2.1 0, 8, .inl t_row)), ((a_t 32), .inl (g.2.2.1 0, 8, .inl t_found))]) cx hG hP hD hS 0 rfl rfl uX8 tyX8 tyX8_ok nmX8 29 (by decide) lf_X8_320 rfl (by decide +kernel) rfl rfl (Nat.le_of_ble_eq_true rfl) rfl dX8_finds_5 (fun H locs hP hD hS => ?_)
  have hG := hGk hS
  refine lv_aload_n hx hb dX8_finds_8 rfl (lv_at hl 0 rfl) ?_
  refine lv_lload_n hx hb dX8_finds_9 rfl (lv_at hl 1 rfl) ?_
  refine xw_put (C := RX8) (T := TX8) (N := 36) (ty := .long) (v := .long v1) (ws' := [((a_t 0), .inr (7, [.ref (a_t 1), .ref (a_t 2), .int t_acted, .ref (a_t 4), .ref (a_t 5), .ref (a_t 6), .ref (a_t 7), .ref (a_t 8), .ref (a_t 9), .int t_taped, .int t_faultKind, .int t_faultPlace, .int t_at, .int t_begin, .int t_token, .int t_value, .int t_bad, .ref (a_t 18), .ref (a_t 19), .ref (a_t 20), .int t_wide, .int t_lost, .ref (a_t 23), .long t_det, .ref (a_t 25), .int t_mask, .int t_mode, .int t_wanted, .int t_orders, .int t_orders, .long v1, .ref (a_t 32), .ref (a_t 33), .int t_unlikes, .ref (a_t 35), .ref (a_t 36)])), ((a_t 20), .inl (g.2.2.1 0, 8, .inl t_row)), ((a_t 32), .inl (g.2.2.1 0, 8, .inl t_found))]) cx hG hP hD hS 0 rfl rfl uX8 tyX8 tyX8_ok nmX8 30 (by decide) lf_X8_323 rfl (by decide +kernel) rfl rfl (Nat.le_of_ble_eq_true rfl) rfl dX8_finds_10 (fun H locs hP hD hS => ?_)
  have hG := hGk hS
  refine lv_iconst (v := 0) hx hb dX8_finds_13 (by decide) ?_
  refine lv_istore_n (lv' := [(3, .int (0)), (0, .ref ((a_t 0))), (1, .long v1)]) hx hb dX8_finds_14 rfl hl (by decide) rfl (fun ls hl => ?_)
  exact w15 FU t_orders v1 t_found 0 _ _ hP hD hS _ (lv_sub hl [1, 0] rfl) h
-- X8_notes
theorem dX8_notes_0 : decode cX8_notes 0 = .ok (.lconst 1, 1) := by decide +kernel
theorem dX8_notes_1 : decode cX8_notes 1 = .ok (.lstore_n 1, 1) := by decide +kernel
theorem dX8_notes_2 : decode cX8_notes 2 = .ok (.iconst 0, 1) := by decide +kernel
theorem dX8_notes_3 : decode cX8_notes 3 = .ok (.istore_n 3, 1) := by decide +kernel
theorem dX8_notes_4 : decode cX8_notes 4 = .ok (.iload_n 3, 1) := by decide +kernel
theorem dX8_notes_5 : decode cX8_notes 5 = .ok (.iconst 3, 1) := by decide +kernel
theorem dX8_notes_6 : decode cX8_notes 6 = .ok (.if_icmp .ge 27, 3) := by decide +kernel
theorem dX8_notes_9 : decode cX8_notes 9 = .ok (.lload_n 1, 1) := by decide +kernel
theorem dX8_notes_10 : decode cX8_notes 10 = .ok (.ldc2_w 370, 3) := by decide +kernel
theorem dX8_notes_13 : decode cX8_notes 13 = .ok (.lmul, 1) := by decide +kernel
theorem dX8_notes_14 : decode cX8_notes 14 = .ok (.aload_n 0, 1) := by decide +kernel
theorem dX8_notes_15 : decode cX8_notes 15 = .ok (.iconst 2, 1) := by decide +kernel
theorem dX8_notes_16 : decode cX8_notes 16 = .ok (.iload_n 3, 1) := by decide +kernel
theorem dX8_notes_17 : decode cX8_notes 17 = .ok (.iload_n 3, 1) := by decide +kernel
theorem dX8_notes_18 : decode cX8_notes 18 = .ok (.invokevirtual 219, 3) := by decide +kernel
theorem dX8_notes_21 : decode cX8_notes 21 = .ok (.ladd, 1) := by decide +kernel
theorem dX8_notes_22 : decode cX8_notes 22 = .ok (.ldc2_w 372, 3) := by decide +kernel
theorem dX8_notes_25 : decode cX8_notes 25 = .ok (.ladd, 1) := by decide +kernel
theorem dX8_notes_26 : decode cX8_notes 26 = .ok (.lstore_n 1, 1) := by decide +kernel
theorem dX8_notes_27 : decode cX8_notes 27 = .ok (.iinc 3 1, 3) := by decide +kernel
theorem dX8_notes_30 : decode cX8_notes 30 = .ok (.goto (-26), 3) := by decide +kernel
theorem dX8_notes_33 : decode cX8_notes 33 = .ok (.lload_n 1, 1) := by decide +kernel
theorem dX8_notes_34 : decode cX8_notes 34 = .ok (.lload_n 1, 1) := by decide +kernel
theorem dX8_notes_35 : decode cX8_notes 35 = .ok (.bipush 31, 2) := by decide +kernel
theorem dX8_notes_37 : decode cX8_notes 37 = .ok (.lushr, 1) := by decide +kernel
theorem dX8_notes_38 : decode cX8_notes 38 = .ok (.lxor, 1) := by decide +kernel
theorem dX8_notes_39 : decode cX8_notes 39 = .ok (.ldc2_w 374, 3) := by decide +kernel
theorem dX8_notes_42 : decode cX8_notes 42 = .ok (.land, 1) := by decide +kernel
theorem dX8_notes_43 : decode cX8_notes 43 = .ok (.l2i, 1) := by decide +kernel
theorem dX8_notes_44 : decode cX8_notes 44 = .ok (.istore_n 3, 1) := by decide +kernel
theorem dX8_notes_45 : decode cX8_notes 45 = .ok (.aload_n 0, 1) := by decide +kernel
theorem dX8_notes_46 : decode cX8_notes 46 = .ok (.getfield 71, 3) := by decide +kernel
theorem dX8_notes_49 : decode cX8_notes 49 = .ok (.iload_n 3, 1) := by decide +kernel
theorem dX8_notes_50 : decode cX8_notes 50 = .ok (.laload, 1) := by decide +kernel
theorem dX8_notes_51 : decode cX8_notes 51 = .ok (.lconst 0, 1) := by decide +kernel
theorem dX8_notes_52 : decode cX8_notes 52 = .ok (.lcmp, 1) := by decide +kernel
theorem dX8_notes_53 : decode cX8_notes 53 = .ok (.ifCond .eq 25, 3) := by decide +kernel
theorem dX8_notes_56 : decode cX8_notes 56 = .ok (.aload_n 0, 1) := by decide +kernel
theorem dX8_notes_57 : decode cX8_notes 57 = .ok (.getfield 71, 3) := by decide +kernel
theorem dX8_notes_60 : decode cX8_notes 60 = .ok (.iload_n 3, 1) := by decide +kernel
theorem dX8_notes_61 : decode cX8_notes 61 = .ok (.laload, 1) := by decide +kernel
theorem dX8_notes_62 : decode cX8_notes 62 = .ok (.lload_n 1, 1) := by decide +kernel
theorem dX8_notes_63 : decode cX8_notes 63 = .ok (.lcmp, 1) := by decide +kernel
theorem dX8_notes_64 : decode cX8_notes 64 = .ok (.ifCond .eq 14, 3) := by decide +kernel
theorem dX8_notes_67 : decode cX8_notes 67 = .ok (.iload_n 3, 1) := by decide +kernel
theorem dX8_notes_68 : decode cX8_notes 68 = .ok (.iconst 1, 1) := by decide +kernel
theorem dX8_notes_69 : decode cX8_notes 69 = .ok (.iadd, 1) := by decide +kernel
theorem dX8_notes_70 : decode cX8_notes 70 = .ok (.ldc_w 376, 3) := by decide +kernel
theorem dX8_notes_73 : decode cX8_notes 73 = .ok (.iand, 1) := by decide +kernel
theorem dX8_notes_74 : decode cX8_notes 74 = .ok (.istore_n 3, 1) := by decide +kernel
theorem dX8_notes_75 : decode cX8_notes 75 = .ok (.goto (-30), 3) := by decide +kernel
theorem dX8_notes_78 : decode cX8_notes 78 = .ok (.aload_n 0, 1) := by decide +kernel
theorem dX8_notes_79 : decode cX8_notes 79 = .ok (.dup, 1) := by decide +kernel
theorem dX8_notes_80 : decode cX8_notes 80 = .ok (.getfield 377, 3) := by decide +kernel
theorem dX8_notes_83 : decode cX8_notes 83 = .ok (.aload_n 0, 1) := by decide +kernel
theorem dX8_notes_84 : decode cX8_notes 84 = .ok (.getfield 71, 3) := by decide +kernel
theorem dX8_notes_87 : decode cX8_notes 87 = .ok (.iload_n 3, 1) := by decide +kernel
theorem dX8_notes_88 : decode cX8_notes 88 = .ok (.laload, 1) := by decide +kernel
theorem dX8_notes_89 : decode cX8_notes 89 = .ok (.lconst 0, 1) := by decide +kernel
theorem dX8_notes_90 : decode cX8_notes 90 = .ok (.lcmp, 1) := by decide +kernel
theorem dX8_notes_91 : decode cX8_notes 91 = .ok (.ifCond .ne 7, 3) := by decide +kernel
theorem dX8_notes_94 : decode cX8_notes 94 = .ok (.iconst 1, 1) := by decide +kernel
theorem dX8_notes_95 : decode cX8_notes 95 = .ok (.goto 4, 3) := by decide +kernel
theorem dX8_notes_98 : decode cX8_notes 98 = .ok (.iconst 0, 1) := by decide +kernel
theorem dX8_notes_99 : decode cX8_notes 99 = .ok (.iadd, 1) := by decide +kernel
theorem dX8_notes_100 : decode cX8_notes 100 = .ok (.putfield 377, 3) := by decide +kernel
theorem dX8_notes_103 : decode cX8_notes 103 = .ok (.aload_n 0, 1) := by decide +kernel
theorem dX8_notes_104 : decode cX8_notes 104 = .ok (.getfield 71, 3) := by decide +kernel
theorem dX8_notes_107 : decode cX8_notes 107 = .ok (.iload_n 3, 1) := by decide +kernel
theorem dX8_notes_108 : decode cX8_notes 108 = .ok (.lload_n 1, 1) := by decide +kernel
theorem dX8_notes_109 : decode cX8_notes 109 = .ok (.lastore, 1) := by decide +kernel
theorem dX8_notes_110 : decode cX8_notes 110 = .ok (.return_, 1) := by decide +kernel
noncomputable def fX8_notes_99  (t_seen : Nat → Int64) (t_unlikes : Int32) (v1 : Int64) (v3 : Int32) (z1 : Int32) (z2 : Int32) : Option ((Nat → Int64) × Int32) := chk 65536 v3 (some (vp_updL t_seen v3.toNatClampNeg v1, z1 + z2))
noncomputable def fX8_notes_78  (t_seen : Nat → Int64) (t_unlikes : Int32) (v1 : Int64) (v3 : Int32) : Option ((Nat → Int64) × Int32) := chk 65536 v3 ((if (lg_cmp (t_seen v3.toNatClampNeg) 0) = 0 then fX8_notes_99 t_seen t_unlikes v1 v3 t_unlikes 1 else fX8_notes_99 t_seen t_unlikes v1 v3 t_unlikes 0))
noncomputable def fX8_notes_45  : Nat → (Nat → Int64) → Int32 → Int64 → Int32 → Option ((Nat → Int64) × Int32)
  | 0, _, _, _, _ => none
  | n + 1, t_seen, t_unlikes, v1, v3 => chk 65536 v3 ((if (lg_cmp (t_seen v3.toNatClampNeg) 0) = 0 then fX8_notes_78 t_seen t_unlikes v1 v3 else chk 65536 v3 ((if (lg_cmp (t_seen v3.toNatClampNeg) v1) = 0 then fX8_notes_78 t_seen t_unlikes v1 v3 else fX8_notes_45 n t_seen t_unlikes v1 ((v3 + 1) &&& 65535)))))
theorem fX8_notes_45_z  (t_seen : Nat → Int64) (t_unlikes : Int32) (v1 : Int64) (v3 : Int32) : fX8_notes_45  0 t_seen t_unlikes v1 v3 = none := rfl
theorem fX8_notes_45_s  (n : Nat) (t_seen : Nat → Int64) (t_unlikes : Int32) (v1 : Int64) (v3 : Int32) : fX8_notes_45  (n + 1) t_seen t_unlikes v1 v3 = chk 65536 v3 ((if (lg_cmp (t_seen v3.toNatClampNeg) 0) = 0 then fX8_notes_78 t_seen t_unlikes v1 v3 else chk 65536 v3 ((if (lg_cmp (t_seen v3.toNatClampNeg) v1) = 0 then fX8_notes_78 t_seen t_unlikes v1 v3 else fX8_notes_45 n t_seen t_unlikes v1 ((v3 + 1) &&& 65535))))) := rfl
noncomputable def fX8_notes_33  (t_seen : Nat → Int64) (t_unlikes : Int32) (v1 : Int64) : Option ((Nat → Int64) × Int32) := fX8_notes_45 FU t_seen t_unlikes v1 (((v1 ^^^ (lushr v1 31)) &&& 65535).toInt32)
noncomputable def fX8_notes_4  : Nat → (Nat → Int32) → (Nat → Int32) → Int32 → Int32 → (Nat → Int64) → Int32 → Int64 → Int32 → Option ((Nat → Int64) × Int32)
  | 0, _, _, _, _, _, _, _, _ => none
  | n + 1, t_mem, t_row, t_wide, t_lost, t_seen, t_unlikes, v1, v3 => (if 3 ≤ v3 then fX8_notes_33 t_seen t_unlikes v1 else (fX8_sum t_mem t_row t_wide t_lost 2 v3 v3).bind fun r2 => fX8_notes_4 n t_mem t_row t_wide t_lost t_seen t_unlikes (((v1 * 2097152) + r2) + 1048576) (v3 + 1))
theorem fX8_notes_4_z  (t_mem : Nat → Int32) (t_row : Nat → Int32) (t_wide : Int32) (t_lost : Int32) (t_seen : Nat → Int64) (t_unlikes : Int32) (v1 : Int64) (v3 : Int32) : fX8_notes_4  0 t_mem t_row t_wide t_lost t_seen t_unlikes v1 v3 = none := rfl
theorem fX8_notes_4_s  (n : Nat) (t_mem : Nat → Int32) (t_row : Nat → Int32) (t_wide : Int32) (t_lost : Int32) (t_seen : Nat → Int64) (t_unlikes : Int32) (v1 : Int64) (v3 : Int32) : fX8_notes_4  (n + 1) t_mem t_row t_wide t_lost t_seen t_unlikes v1 v3 = (if 3 ≤ v3 then fX8_notes_33 t_seen t_unlikes v1 else (fX8_sum t_mem t_row t_wide t_lost 2 v3 v3).bind fun r2 => fX8_notes_4 n t_mem t_row t_wide t_lost t_seen t_unlikes (((v1 * 2097152) + r2) + 1048576) (v3 + 1)) := rfl
noncomputable def fX8_notes  (t_mem : Nat → Int32) (t_row : Nat → Int32) (t_wide : Int32) (t_lost : Int32) (t_seen : Nat → Int64) (t_unlikes : Int32) : Option ((Nat → Int64) × Int32) := fX8_notes_4 FU t_mem t_row t_wide t_lost t_seen t_unlikes 1 0
set_option maxHeartbeats 4000000 in
set_option maxRecDepth 100000 in
theorem ctX8_notes (l : Launch) (g : GT) (sz : Nat) (a_t : Nat → Nat) (t_acted : Int32) (t_taped : Int32) (t_faultKind : Int32) (t_faultPlace : Int32) (t_at : Int32) (t_begin : Int32) (t_token : Int32) (t_value : Int32) (t_bad : Int32) (t_wide : Int32) (t_lost : Int32) (t_det : Int64) (t_mask : Int32) (t_mode : Int32) (t_wanted : Int32) (t_orders : Int32) (t_foundAt : Int32) (t_foundBy : Int64) (t_unlikes : Int32) (t_mem : Nat → Int32) (t_row : Nat → Int32) (t_seen : Nat → Int64) (o_t_seen : Nat → Int64) (o_t_unlikes : Int32) (h : fX8_notes t_mem t_row t_wide t_lost t_seen t_unlikes = some (o_t_seen, o_t_unlikes)) : Met l yX8_notes (Cond.code yX8_notes cX8_notes 4 none :: Tw) ⟨2, 0, 0, 56⟩ (va_Pc [.ref ((a_t 0))] (rwB g [((a_t 0), .inr (7, [.ref (a_t 1), .ref (a_t 2), .int t_acted, .ref (a_t 4), .ref (a_t 5), .ref (a_t 6), .ref (a_t 7), .ref (a_t 8), .ref (a_t 9), .int t_taped, .int t_faultKind, .int t_faultPlace, .int t_at, .int t_begin, .int t_token, .int t_value, .int t_bad, .ref (a_t 18), .ref (a_t 19), .ref (a_t 20), .int t_wide, .int t_lost, .ref (a_t 23), .long t_det, .ref (a_t 25), .int t_mask, .int t_mode, .int t_wanted, .int t_orders, .int t_foundAt, .long t_foundBy, .ref (a_t 32), .ref (a_t 33), .int t_unlikes, .ref (a_t 35), .ref (a_t 36)])), ((a_t 1), .inl (g.2.2.1 0, 27, .inl t_mem)), ((a_t 20), .inl (g.2.2.1 0, 8, .inl t_row)), ((a_t 33), .inl (g.2.2.1 1, 65536, .inr (.inl t_seen)))] sz)) (va_Qv (fun (_ : Nat → Nat) => True) (fun u => rwE g (va_A [((a_t 0), .inr (7, [.ref (a_t 1), .ref (a_t 2), .int t_acted, .ref (a_t 4), .ref (a_t 5), .ref (a_t 6), .ref (a_t 7), .ref (a_t 8), .ref (a_t 9), .int t_taped, .int t_faultKind, .int t_faultPlace, .int t_at, .int t_begin, .int t_token, .int t_value, .int t_bad, .ref (a_t 18), .ref (a_t 19), .ref (a_t 20), .int t_wide, .int t_lost, .ref (a_t 23), .long t_det, .ref (a_t 25), .int t_mask, .int t_mode, .int t_wanted, .int t_orders, .int t_foundAt, .long t_foundBy, .ref (a_t 32), .ref (a_t 33), .int t_unlikes, .ref (a_t 35), .ref (a_t 36)])), ((a_t 1), .inl (g.2.2.1 0, 27, .inl t_mem)), ((a_t 20), .inl (g.2.2.1 0, 8, .inl t_row)), ((a_t 33), .inl (g.2.2.1 1, 65536, .inr (.inl t_seen)))] sz) [((a_t 0), .inr (7, [.ref (a_t 1), .ref (a_t 2), .int t_acted, .ref (a_t 4), .ref (a_t 5), .ref (a_t 6), .ref (a_t 7), .ref (a_t 8), .ref (a_t 9), .int t_taped, .int t_faultKind, .int t_faultPlace, .int t_at, .int t_begin, .int t_token, .int t_value, .int t_bad, .ref (a_t 18), .ref (a_t 19), .ref (a_t 20), .int t_wide, .int t_lost, .ref (a_t 23), .long t_det, .ref (a_t 25), .int t_mask, .int t_mode, .int t_wanted, .int t_orders, .int t_foundAt, .long t_foundBy, .ref (a_t 32), .ref (a_t 33), .int o_t_unlikes, .ref (a_t 35), .ref (a_t 36)])), ((a_t 1), .inl (g.2.2.1 0, 27, .inl t_mem)), ((a_t 20), .inl (g.2.2.1 0, 8, .inl t_row)), ((a_t 33), .inl (g.2.2.1 1, 65536, .inr (.inl o_t_seen)))]) (va_A [((a_t 0), .inr (7, [.ref (a_t 1), .ref (a_t 2), .int t_acted, .ref (a_t 4), .ref (a_t 5), .ref (a_t 6), .ref (a_t 7), .ref (a_t 8), .ref (a_t 9), .int t_taped, .int t_faultKind, .int t_faultPlace, .int t_at, .int t_begin, .int t_token, .int t_value, .int t_bad, .ref (a_t 18), .ref (a_t 19), .ref (a_t 20), .int t_wide, .int t_lost, .ref (a_t 23), .long t_det, .ref (a_t 25), .int t_mask, .int t_mode, .int t_wanted, .int t_orders, .int t_foundAt, .long t_foundBy, .ref (a_t 32), .ref (a_t 33), .int t_unlikes, .ref (a_t 35), .ref (a_t 36)])), ((a_t 1), .inl (g.2.2.1 0, 27, .inl t_mem)), ((a_t 20), .inl (g.2.2.1 0, 8, .inl t_row)), ((a_t 33), .inl (g.2.2.1 1, 65536, .inr (.inl t_seen)))] sz)) 0 0 (va_A [((a_t 0), .inr (7, [.ref (a_t 1), .ref (a_t 2), .int t_acted, .ref (a_t 4), .ref (a_t 5), .ref (a_t 6), .ref (a_t 7), .ref (a_t 8), .ref (a_t 9), .int t_taped, .int t_faultKind, .int t_faultPlace, .int t_at, .int t_begin, .int t_token, .int t_value, .int t_bad, .ref (a_t 18), .ref (a_t 19), .ref (a_t 20), .int t_wide, .int t_lost, .ref (a_t 23), .long t_det, .ref (a_t 25), .int t_mask, .int t_mode, .int t_wanted, .int t_orders, .int t_foundAt, .long t_foundBy, .ref (a_t 32), .ref (a_t 33), .int t_unlikes, .ref (a_t 35), .ref (a_t 36)])), ((a_t 1), .inl (g.2.2.1 0, 27, .inl t_mem)), ((a_t 20), .inl (g.2.2.1 0, 8, .inl t_row)), ((a_t 33), .inl (g.2.2.1 1, 65536, .inr (.inl t_seen)))] sz) := by
  refine rw_metv (by decide) (Nat.le_of_ble_eq_true rfl) (lv0 := [(0, .ref ((a_t 0)))]) rfl ?_
  intro p e s m args below meth c ls Q A cx hret hG hAb hb0 hA hP hD hl
  have hx := cx.1
  have hb := cx.2.1
  have hG0 := hG
  have hGk : ∀ {H : Heap} {locs : List Loc}, va_S A s.heap H locs → GE g s H := fun hS => hG0.keptS hAb hS
  have hSb : ∀ {H : Heap} {locs : List Loc}, va_S A s.heap H locs → va_S (fun a => g.1 ≤ a) s.heap H locs := fun hS => ⟨hS.1, fun q h1 h2 => hS.2.1 q h1 (fun z => h2 (hAb q z)), fun l hl => hAb _ (hS.2.2 l hl)⟩
  have hS : va_S A s.heap s.heap [] := va_S.rf
  have hrt : ∀ (u : Nat → Nat) (pc : Nat) (ls : Array Slot) (x_t_seen : Nat → Int64) (x_t_unlikes : Int32) (H : Heap) (locs : List Loc), decode cX8_notes pc = .ok (.return_, 1) → some (x_t_seen, x_t_unlikes) = some (o_t_seen, o_t_unlikes) → va_P g.2.1 vwCl [((a_t 0), .inr (7, [.ref (a_t 1), .ref (a_t 2), .int t_acted, .ref (a_t 4), .ref (a_t 5), .ref (a_t 6), .ref (a_t 7), .ref (a_t 8), .ref (a_t 9), .int t_taped, .int t_faultKind, .int t_faultPlace, .int t_at, .int t_begin, .int t_token, .int t_value, .int t_bad, .ref (a_t 18), .ref (a_t 19), .ref (a_t 20), .int t_wide, .int t_lost, .ref (a_t 23), .long t_det, .ref (a_t 25), .int t_mask, .int t_mode, .int t_wanted, .int t_orders, .int t_foundAt, .long t_foundBy, .ref (a_t 32), .ref (a_t 33), .int x_t_unlikes, .ref (a_t 35), .ref (a_t 36)])), ((a_t 1), .inl (g.2.2.1 0, 27, .inl t_mem)), ((a_t 20), .inl (g.2.2.1 0, 8, .inl t_row)), ((a_t 33), .inl (g.2.2.1 1, 65536, .inr (.inl x_t_seen)))] H → va_D A [((a_t 0), .inr (7, [.ref (a_t 1), .ref (a_t 2), .int t_acted, .ref (a_t 4), .ref (a_t 5), .ref (a_t 6), .ref (a_t 7), .ref (a_t 8), .ref (a_t 9), .int t_taped, .int t_faultKind, .int t_faultPlace, .int t_at, .int t_begin, .int t_token, .int t_value, .int t_bad, .ref (a_t 18), .ref (a_t 19), .ref (a_t 20), .int t_wide, .int t_lost, .ref (a_t 23), .long t_det, .ref (a_t 25), .int t_mask, .int t_mode, .int t_wanted, .int t_orders, .int t_foundAt, .long t_foundBy, .ref (a_t 32), .ref (a_t 33), .int x_t_unlikes, .ref (a_t 35), .ref (a_t 36)])), ((a_t 1), .inl (g.2.2.1 0, 27, .inl t_mem)), ((a_t 20), .inl (g.2.2.1 0, 8, .inl t_row)), ((a_t 33), .inl (g.2.2.1 1, 65536, .inr (.inl x_t_seen)))] → va_S A s.heap H locs → W p l e ⟨2, 0, 0, 56⟩ s m args below meth c H locs 0 0 Q (F0 m pc ls []) := by
    intro u pc ls x_t_seen x_t_unlikes H locs hd h hP hD hS
    cases h
    exact hret u _ _ _ _ hd hP hD hS
  have w99 : ∀ (t_seen : Nat → Int64) (t_unlikes : Int32) (v1 : Int64) (v3 : Int32) (z1 : Int32) (z2 : Int32) (H : Heap) (locs : List Loc), va_P g.2.1 vwCl [((a_t 0), .inr (7, [.ref (a_t 1), .ref (a_t 2), .int t_acted, .ref (a_t 4), .ref (a_t 5), .ref (a_t 6), .ref (a_t 7), .ref (a_t 8), .ref (a_t 9), .int t_taped, .int t_faultKind, .int t_faultPlace, .int t_at, .int t_begin, .int t_token, .int t_value, .int t_bad, .ref (a_t 18), .ref (a_t 19), .ref (a_t 20), .int t_wide, .int t_lost, .ref (a_t 23), .long t_det, .ref (a_t 25), .int t_mask, .int t_mode, .int t_wanted, .int t_orders, .int t_foundAt, .long t_foundBy, .ref (a_t 32), .ref (a_t 33), .int t_unlikes, .ref (a_t 35), .ref (a_t 36)])), ((a_t 1), .inl (g.2.2.1 0, 27, .inl t_mem)), ((a_t 20), .inl (g.2.2.1 0, 8, .inl t_row)), ((a_t 33), .inl (g.2.2.1 1, 65536, .inr (.inl t_seen)))] H → va_D A [((a_t 0), .inr (7, [.ref (a_t 1), .ref (a_t 2), .int t_acted, .ref (a_t 4), .ref (a_t 5), .ref (a_t 6), .ref (a_t 7), .ref (a_t 8), .ref (a_t 9), .int t_taped, .int t_faultKind, .int t_faultPlace, .int t_at, .int t_begin, .int t_token, .int t_value, .int t_bad, .ref (a_t 18), .ref (a_t 19), .ref (a_t 20), .int t_wide, .int t_lost, .ref (a_t 23), .long t_det, .ref (a_t 25), .int t_mask, .int t_mode, .int t_wanted, .int t_orders, .int t_foundAt, .long t_foundBy, .ref (a_t 32), .ref (a_t 33), .int t_unlikes, .ref (a_t 35), .ref (a_t 36)])), ((a_t 1), .inl (g.2.2.1 0, 27, .inl t_mem)), ((a_t 20), .inl (g.2.2.1 0, 8, .inl t_row)), ((a_t 33), .inl (g.2.2.1 1, 65536, .inr (.inl t_seen)))] → va_S A s.heap H locs → ∀ (ls : Array Slot), lv_has ls 4 [(0, .ref ((a_t 0))), (1, .long v1), (3, .int v3)] → fX8_notes_99  t_seen t_unlikes v1 v3 z1 z2 = some (o_t_seen, o_t_unlikes) → W p l e ⟨2, 0, 0, 56⟩ s m args below meth c H locs 0 0 Q (F0 m 99 ls [.int z2, .int z1, .ref ((a_t 0))]) := by
    intro t_seen t_unlikes v1 v3 z1 z2 H locs hP hD hS ls hl h
    unfold fX8_notes_99 at h
    have hG := hGk hS
    refine lv_iadd hx hb dX8_notes_99 ?_
    refine xw_put (C := RX8) (T := TX8) (N := 36) (ty := .int) (v := .int (z1 + z2)) (ws' := [((a_t 0), .inr (7, [.ref (a_t 1), .ref (a_t 2), .int t_acted, .ref (a_t 4), .ref (a_t 5), .ref (a_t 6), .ref (a_t 7), .ref (a_t 8), .ref (a_t 9), .int t_taped, .int t_faultKind, .int t_faultPlace, .int t_at, .int t_begin, .int t_token, .int t_value, .int t_bad, .ref (a_t 18), .ref (a_t 19), .ref (a_t 20), .int t_wide, .int t_lost, .ref (a_t 23), .long t_det, .ref (a_t 25), .int t_mask, .int t_mode, .int t_wanted, .int t_orders, .int t_foundAt, .long t_foundBy, .ref (a_t 32), .ref (a_t 33), .int (z1 + z2), .ref (a_t 35), .ref (a_t 36)])), ((a_t 1), .inl (g.2.2.1 0, 27, .inl t_mem)), ((a_t 20), .inl (g.2.2.1 0, 8, .inl t_row)), ((a_t 33), .inl (g.2.2.1 1, 65536, .inr (.inl t_seen)))]) cx hG hP hD hS 0 rfl rfl uX8 tyX8 tyX8_ok nmX8 33 (by decide) lf_X8_377 rfl (by decide +kernel) rfl rfl (Nat.le_of_ble_eq_true rfl) rfl dX8_notes_100 (fun H locs hP hD hS => ?_)
    have hG := hGk hS
    refine lv_aload_n hx hb dX8_notes_103 rfl (lv_at hl 0 rfl) ?_
    refine xa_get (C := RX8) (T := TX8) (N := 36) cx hG hP 0 rfl rfl uX8 32 (by decide) lf_X8_71 rfl dX8_notes_104 ?_
    refine lv_iload_n hx hb dX8_notes_107 rfl (lv_at hl 2 rfl) ?_
    refine lv_lload_n hx hb dX8_notes_108 rfl (lv_at hl 1 rfl) ?_
    obtain ⟨hi10, h⟩ := chk_out h
    refine xw_last (ws' := [((a_t 0), .inr (7, [.ref (a_t 1), .ref (a_t 2), .int t_acted, .ref (a_t 4), .ref (a_t 5), .ref (a_t 6), .ref (a_t 7), .ref (a_t 8), .ref (a_t 9), .int t_taped, .int t_faultKind, .int t_faultPlace, .int t_at, .int t_begin, .int t_token, .int t_value, .int t_bad, .ref (a_t 18), .ref (a_t 19), .ref (a_t 20), .int t_wide, .int t_lost, .ref (a_t 23), .long t_det, .ref (a_t 25), .int t_mask, .int t_mode, .int t_wanted, .int t_orders, .int t_foundAt, .long t_foundBy, .ref (a_t 32), .ref (a_t 33), .int (z1 + z2), .ref (a_t 35), .ref (a_t 36)])), ((a_t 1), .inl (g.2.2.1 0, 27, .inl t_mem)), ((a_t 20), .inl (g.2.2.1 0, 8, .inl t_row)), ((a_t 33), .inl (g.2.2.1 1, 65536, .inr (.inl (vp_updL t_seen v3.toNatClampNeg v1))))]) (k := v3.toNatClampNeg) cx hG hP hD hS 3 rfl hi10 rfl rfl dX8_notes_109 (fun H locs hP hD hS => ?_)
    have hG := hGk hS
    exact hrt (fun _ => 0) _ _ (vp_updL t_seen v3.toNatClampNeg v1) (z1 + z2) _ _ dX8_notes_110 h (hP.sub [0, 1, 2, 3] rfl) (hD.sub [0, 1, 2, 3] (by decide) rfl) hS
  have w78 : ∀ (t_seen : Nat → Int64) (t_unlikes : Int32) (v1 : Int64) (v3 : Int32) (H : Heap) (locs : List Loc), va_P g.2.1 vwCl [((a_t 0), .inr (7, [.ref (a_t 1), .ref (a_t 2), .int t_acted, .ref (a_t 4), .ref (a_t 5), .ref (a_t 6), .ref (a_t 7), .ref (a_t 8), .ref (a_t 9), .int t_taped, .int t_faultKind, .int t_faultPlace, .int t_at, .int t_begin, .int t_token, .int t_value, .int t_bad, .ref (a_t 18), .ref (a_t 19), .ref (a_t 20), .int t_wide, .int t_lost, .ref (a_t 23), .long t_det, .ref (a_t 25), .int t_mask, .int t_mode, .int t_wanted, .int t_orders, .int t_foundAt, .long t_foundBy, .ref (a_t 32), .ref (a_t 33), .int t_unlikes, .ref (a_t 35), .ref (a_t 36)])), ((a_t 1), .inl (g.2.2.1 0, 27, .inl t_mem)), ((a_t 20), .inl (g.2.2.1 0, 8, .inl t_row)), ((a_t 33), .inl (g.2.2.1 1, 65536, .inr (.inl t_seen)))] H → va_D A [((a_t 0), .inr (7, [.ref (a_t 1), .ref (a_t 2), .int t_acted, .ref (a_t 4), .ref (a_t 5), .ref (a_t 6), .ref (a_t 7), .ref (a_t 8), .ref (a_t 9), .int t_taped, .int t_faultKind, .int t_faultPlace, .int t_at, .int t_begin, .int t_token, .int t_value, .int t_bad, .ref (a_t 18), .ref (a_t 19), .ref (a_t 20), .int t_wide, .int t_lost, .ref (a_t 23), .long t_det, .ref (a_t 25), .int t_mask, .int t_mode, .int t_wanted, .int t_orders, .int t_foundAt, .long t_foundBy, .ref (a_t 32), .ref (a_t 33), .int t_unlikes, .ref (a_t 35), .ref (a_t 36)])), ((a_t 1), .inl (g.2.2.1 0, 27, .inl t_mem)), ((a_t 20), .inl (g.2.2.1 0, 8, .inl t_row)), ((a_t 33), .inl (g.2.2.1 1, 65536, .inr (.inl t_seen)))] → va_S A s.heap H locs → ∀ (ls : Array Slot), lv_has ls 4 [(0, .ref ((a_t 0))), (1, .long v1), (3, .int v3)] → fX8_notes_78  t_seen t_unlikes v1 v3 = some (o_t_seen, o_t_unlikes) → W p l e ⟨2, 0, 0, 56⟩ s m args below meth c H locs 0 0 Q (F0 m 78 ls []) := by
    intro t_seen t_unlikes v1 v3 H locs hP hD hS ls hl h
    unfold fX8_notes_78 at h
    have hG := hGk hS
    refine lv_aload_n hx hb dX8_notes_78 rfl (lv_at hl 0 rfl) ?_
    refine lv_dup hx hb dX8_notes_79 rfl ?_
    refine xa_get (C := RX8) (T := TX8) (N := 36) cx hG hP 0 rfl rfl uX8 33 (by decide) lf_X8_377 rfl dX8_notes_80 ?_
    refine lv_aload_n hx hb dX8_notes_83 rfl (lv_at hl 0 rfl) ?_
    refine xa_get (C := RX8) (T := TX8) (N := 36) cx hG hP 0 rfl rfl uX8 32 (by decide) lf_X8_71 rfl dX8_notes_84 ?_
    refine lv_iload_n hx hb dX8_notes_87 rfl (lv_at hl 2 rfl) ?_
    obtain ⟨hi8, h⟩ := chk_out h
    refine xa_lald cx hG hP 3 rfl hi8 rfl dX8_notes_88 ?_
    refine lv_lconst (v := 0) hx hb dX8_notes_89 (by decide) ?_
    refine W.lcmp hx hb dX8_notes_90 ?_
    refine lv_if_ne (tgt := 98) hx hb dX8_notes_91 (by decide) (fun c9 => ?_) (fun c9 => ?_)
    · have h := itn c9 h
      refine lv_iconst (v := 0) hx hb dX8_notes_98 (by decide) ?_
      exact w99 t_seen t_unlikes v1 v3 t_unlikes 0 _ _ hP hD hS _ (lv_sub hl [0, 1, 2] rfl) h
    · have h := itp c9 h
      refine lv_iconst (v := 1) hx hb dX8_notes_94 (by decide) ?_
      refine lv_goto (tgt := 99) hx hb dX8_notes_95 (by decide) ?_
      exact w99 t_seen t_unlikes v1 v3 t_unlikes 1 _ _ hP hD hS _ (lv_sub hl [0, 1, 2] rfl) h
  have w45 : ∀ (n : Nat) (t_seen : Nat → Int64) (t_unlikes : Int32) (v1 : Int64) (v3 : Int32) (H : Heap) (locs : List Loc), va_P g.2.1 vwCl [((a_t 0), .inr (7, [.ref (a_t 1), .ref (a_t 2), .int t_acted, .ref (a_t 4), .ref (a_t 5), .ref (a_t 6), .ref (a_t 7), .ref (a_t 8), .ref (a_t 9), .int t_taped, .int t_faultKind, .int t_faultPlace, .int t_at, .int t_begin, .int t_token, .int t_value, .int t_bad, .ref (a_t 18), .ref (a_t 19), .ref (a_t 20), .int t_wide, .int t_lost, .ref (a_t 23), .long t_det, .ref (a_t 25), .int t_mask, .int t_mode, .int t_wanted, .int t_orders, .int t_foundAt, .long t_foundBy, .ref (a_t 32), .ref (a_t 33), .int t_unlikes, .ref (a_t 35), .ref (a_t 36)])), ((a_t 1), .inl (g.2.2.1 0, 27, .inl t_mem)), ((a_t 20), .inl (g.2.2.1 0, 8, .inl t_row)), ((a_t 33), .inl (g.2.2.1 1, 65536, .inr (.inl t_seen)))] H → va_D A [((a_t 0), .inr (7, [.ref (a_t 1), .ref (a_t 2), .int t_acted, .ref (a_t 4), .ref (a_t 5), .ref (a_t 6), .ref (a_t 7), .ref (a_t 8), .ref (a_t 9), .int t_taped, .int t_faultKind, .int t_faultPlace, .int t_at, .int t_begin, .int t_token, .int t_value, .int t_bad, .ref (a_t 18), .ref (a_t 19), .ref (a_t 20), .int t_wide, .int t_lost, .ref (a_t 23), .long t_det, .ref (a_t 25), .int t_mask, .int t_mode, .int t_wanted, .int t_orders, .int t_foundAt, .long t_foundBy, .ref (a_t 32), .ref (a_t 33), .int t_unlikes, .ref (a_t 35), .ref (a_t 36)])), ((a_t 1), .inl (g.2.2.1 0, 27, .inl t_mem)), ((a_t 20), .inl (g.2.2.1 0, 8, .inl t_row)), ((a_t 33), .inl (g.2.2.1 1, 65536, .inr (.inl t_seen)))] → va_S A s.heap H locs → ∀ (ls : Array Slot), lv_has ls 4 [(0, .ref ((a_t 0))), (1, .long v1), (3, .int v3)] → fX8_notes_45  n t_seen t_unlikes v1 v3 = some (o_t_seen, o_t_unlikes) → W p l e ⟨2, 0, 0, 56⟩ s m args below meth c H locs 0 0 Q (F0 m 45 ls []) := by
    intro n
    induction n with
    | zero => intro t_seen t_unlikes v1 v3 H locs hP hD hS ls hl h; cases (fX8_notes_45_z  t_seen t_unlikes v1 v3).symm.trans h
    | succ n ih =>
    intro t_seen t_unlikes v1 v3 H locs hP hD hS ls hl h
    have h := (fX8_notes_45_s  n t_seen t_unlikes v1 v3).symm.trans h
    have hG := hGk hS
    refine lv_aload_n hx hb dX8_notes_45 rfl (lv_at hl 0 rfl) ?_
    refine xa_get (C := RX8) (T := TX8) (N := 36) cx hG hP 0 rfl rfl uX8 32 (by decide) lf_X8_71 rfl dX8_notes_46 ?_
    refine lv_iload_n hx hb dX8_notes_49 rfl (lv_at hl 2 rfl) ?_
    obtain ⟨hi4, h⟩ := chk_out h
    refine xa_lald cx hG hP 3 rfl hi4 rfl dX8_notes_50 ?_
    refine lv_lconst (v := 0) hx hb dX8_notes_51 (by decide) ?_
    refine W.lcmp hx hb dX8_notes_52 ?_
    refine lv_if_eq (tgt := 78) hx hb dX8_notes_53 (by decide) (fun c5 => ?_) (fun c5 => ?_)
    · have h := itp c5 h
      exact w78 t_seen t_unlikes v1 v3 _ _ hP hD hS _ (lv_sub hl [0, 1, 2] rfl) h
    · have h := itn c5 h
      refine lv_aload_n hx hb dX8_notes_56 rfl (lv_at hl 0 rfl) ?_
      refine xa_get (C := RX8) (T := TX8) (N := 36) cx hG hP 0 rfl rfl uX8 32 (by decide) lf_X8_71 rfl dX8_notes_57 ?_
      refine lv_iload_n hx hb dX8_notes_60 rfl (lv_at hl 2 rfl) ?_
      obtain ⟨hi6, h⟩ := chk_out h
      refine xa_lald cx hG hP 3 rfl hi6 rfl dX8_notes_61 ?_
      refine lv_lload_n hx hb dX8_notes_62 rfl (lv_at hl 1 rfl) ?_
      refine W.lcmp hx hb dX8_notes_63 ?_
      refine lv_if_eq (tgt := 78) hx hb dX8_notes_64 (by decide) (fun c7 => ?_) (fun c7 => ?_)
      · have h := itp c7 h
        exact w78 t_seen t_unlikes v1 v3 _ _ hP hD hS _ (lv_sub hl [0, 1, 2] rfl) h
      · have h := itn c7 h
        refine lv_iload_n hx hb dX8_notes_67 rfl (lv_at hl 2 rfl) ?_
        refine lv_iconst (v := 1) hx hb dX8_notes_68 (by decide) ?_
        refine lv_iadd hx hb dX8_notes_69 ?_
        refine lv_ldcw (own := RX8) (v := 65535) hx hb cx.2.2.2.1 (cx.2.2.2.2 _ ci_X8_376) dX8_notes_70 ?_
        refine lv_iand hx hb dX8_notes_73 ?_
        refine lv_istore_n (lv' := [(3, .int ((v3 + 1) &&& 65535)), (0, .ref ((a_t 0))), (1, .long v1)]) hx hb dX8_notes_74 rfl hl (by decide) rfl (fun ls hl => ?_)
        refine lv_goto (tgt := 45) hx hb dX8_notes_75 (by decide) ?_
        exact ih t_seen t_unlikes v1 ((v3 + 1) &&& 65535) _ _ hP hD hS _ (lv_sub hl [1, 2, 0] rfl) h
  have w33 : ∀ (t_seen : Nat → Int64) (t_unlikes : Int32) (v1 : Int64) (H : Heap) (locs : List Loc), va_P g.2.1 vwCl [((a_t 0), .inr (7, [.ref (a_t 1), .ref (a_t 2), .int t_acted, .ref (a_t 4), .ref (a_t 5), .ref (a_t 6), .ref (a_t 7), .ref (a_t 8), .ref (a_t 9), .int t_taped, .int t_faultKind, .int t_faultPlace, .int t_at, .int t_begin, .int t_token, .int t_value, .int t_bad, .ref (a_t 18), .ref (a_t 19), .ref (a_t 20), .int t_wide, .int t_lost, .ref (a_t 23), .long t_det, .ref (a_t 25), .int t_mask, .int t_mode, .int t_wanted, .int t_orders, .int t_foundAt, .long t_foundBy, .ref (a_t 32), .ref (a_t 33), .int t_unlikes, .ref (a_t 35), .ref (a_t 36)])), ((a_t 1), .inl (g.2.2.1 0, 27, .inl t_mem)), ((a_t 20), .inl (g.2.2.1 0, 8, .inl t_row)), ((a_t 33), .inl (g.2.2.1 1, 65536, .inr (.inl t_seen)))] H → va_D A [((a_t 0), .inr (7, [.ref (a_t 1), .ref (a_t 2), .int t_acted, .ref (a_t 4), .ref (a_t 5), .ref (a_t 6), .ref (a_t 7), .ref (a_t 8), .ref (a_t 9), .int t_taped, .int t_faultKind, .int t_faultPlace, .int t_at, .int t_begin, .int t_token, .int t_value, .int t_bad, .ref (a_t 18), .ref (a_t 19), .ref (a_t 20), .int t_wide, .int t_lost, .ref (a_t 23), .long t_det, .ref (a_t 25), .int t_mask, .int t_mode, .int t_wanted, .int t_orders, .int t_foundAt, .long t_foundBy, .ref (a_t 32), .ref (a_t 33), .int t_unlikes, .ref (a_t 35), .ref (a_t 36)])), ((a_t 1), .inl (g.2.2.1 0, 27, .inl t_mem)), ((a_t 20), .inl (g.2.2.1 0, 8, .inl t_row)), ((a_t 33), .inl (g.2.2.1 1, 65536, .inr (.inl t_seen)))] → va_S A s.heap H locs → ∀ (ls : Array Slot), lv_has ls 4 [(0, .ref ((a_t 0))), (1, .long v1)] → fX8_notes_33  t_seen t_unlikes v1 = some (o_t_seen, o_t_unlikes) → W p l e ⟨2, 0, 0, 56⟩ s m args below meth c H locs 0 0 Q (F0 m 33 ls []) := by
    intro t_seen t_unlikes v1 H locs hP hD hS ls hl h
    unfold fX8_notes_33 at h
    have hG := hGk hS
    refine lv_lload_n hx hb dX8_notes_33 rfl (lv_at hl 1 rfl) ?_
    refine lv_lload_n hx hb dX8_notes_34 rfl (lv_at hl 1 rfl) ?_
    refine lv_bipush (v := 31) hx hb dX8_notes_35 (by decide) ?_
    refine lv_lushr (v := lushr v1 31) hx hb dX8_notes_37 rfl ?_
    refine lv_lxor hx hb dX8_notes_38 ?_
    refine lv_ldc2 (own := RX8) (v := 65535) hx hb cx.2.2.2.1 (cx.2.2.2.2 _ cl_X8_374) dX8_notes_39 ?_
    refine lv_land hx hb dX8_notes_42 ?_
    refine lv_l2i (v := ((v1 ^^^ (lushr v1 31)) &&& 65535).toInt32) hx hb dX8_notes_43 rfl ?_
    refine lv_istore_n (lv' := [(3, .int (((v1 ^^^ (lushr v1 31)) &&& 65535).toInt32)), (0, .ref ((a_t 0))), (1, .long v1)]) hx hb dX8_notes_44 rfl hl (by decide) rfl (fun ls hl => ?_)
    exact w45 FU t_seen t_unlikes v1 (((v1 ^^^ (lushr v1 31)) &&& 65535).toInt32) _ _ hP hD hS _ (lv_sub hl [1, 2, 0] rfl) h
  have w4 : ∀ (n : Nat) (t_seen : Nat → Int64) (t_unlikes : Int32) (v1 : Int64) (v3 : Int32) (H : Heap) (locs : List Loc), va_P g.2.1 vwCl [((a_t 0), .inr (7, [.ref (a_t 1), .ref (a_t 2), .int t_acted, .ref (a_t 4), .ref (a_t 5), .ref (a_t 6), .ref (a_t 7), .ref (a_t 8), .ref (a_t 9), .int t_taped, .int t_faultKind, .int t_faultPlace, .int t_at, .int t_begin, .int t_token, .int t_value, .int t_bad, .ref (a_t 18), .ref (a_t 19), .ref (a_t 20), .int t_wide, .int t_lost, .ref (a_t 23), .long t_det, .ref (a_t 25), .int t_mask, .int t_mode, .int t_wanted, .int t_orders, .int t_foundAt, .long t_foundBy, .ref (a_t 32), .ref (a_t 33), .int t_unlikes, .ref (a_t 35), .ref (a_t 36)])), ((a_t 1), .inl (g.2.2.1 0, 27, .inl t_mem)), ((a_t 20), .inl (g.2.2.1 0, 8, .inl t_row)), ((a_t 33), .inl (g.2.2.1 1, 65536, .inr (.inl t_seen)))] H → va_D A [((a_t 0), .inr (7, [.ref (a_t 1), .ref (a_t 2), .int t_acted, .ref (a_t 4), .ref (a_t 5), .ref (a_t 6), .ref (a_t 7), .ref (a_t 8), .ref (a_t 9), .int t_taped, .int t_faultKind, .int t_faultPlace, .int t_at, .int t_begin, .int t_token, .int t_value, .int t_bad, .ref (a_t 18), .ref (a_t 19), .ref (a_t 20), .int t_wide, .int t_lost, .ref (a_t 23), .long t_det, .ref (a_t 25), .int t_mask, .int t_mode, .int t_wanted, .int t_orders, .int t_foundAt, .long t_foundBy, .ref (a_t 32), .ref (a_t 33), .int t_unlikes, .ref (a_t 35), .ref (a_t 36)])), ((a_t 1), .inl (g.2.2.1 0, 27, .inl t_mem)), ((a_t 20), .inl (g.2.2.1 0, 8, .inl t_row)), ((a_t 33), .inl (g.2.2.1 1, 65536, .inr (.inl t_seen)))] → va_S A s.heap H locs → ∀ (ls : Array Slot), lv_has ls 4 [(0, .ref ((a_t 0))), (1, .long v1), (3, .int v3)] → fX8_notes_4  n t_mem t_row t_wide t_lost t_seen t_unlikes v1 v3 = some (o_t_seen, o_t_unlikes) → W p l e ⟨2, 0, 0, 56⟩ s m args below meth c H locs 0 0 Q (F0 m 4 ls []) := by
    intro n
    induction n with
    | zero => intro t_seen t_unlikes v1 v3 H locs hP hD hS ls hl h; cases (fX8_notes_4_z  t_mem t_row t_wide t_lost t_seen t_unlikes v1 v3).symm.trans h
    | succ n ih =>
    intro t_seen t_unlikes v1 v3 H locs hP hD hS ls hl h
    have h := (fX8_notes_4_s  n t_mem t_row t_wide t_lost t_seen t_unlikes v1 v3).symm.trans h
    have hG := hGk hS
    refine lv_iload_n hx hb dX8_notes_4 rfl (lv_at hl 2 rfl) ?_
    refine lv_iconst (v := 3) hx hb dX8_notes_5 (by decide) ?_
    refine lv_icmp_ge (tgt := 33) hx hb dX8_notes_6 (by decide) (fun c1 => ?_) (fun c1 => ?_)
    · have h := itp c1 h
      exact w33 t_seen t_unlikes v1 _ _ hP hD hS _ (lv_sub hl [0, 1] rfl) h
    · have h := itn c1 h
      refine lv_lload_n hx hb dX8_notes_9 rfl (lv_at hl 1 rfl) ?_
      refine lv_ldc2 (own := RX8) (v := 2097152) hx hb cx.2.2.2.1 (cx.2.2.2.2 _ cl_X8_370) dX8_notes_10 ?_
      refine lv_lmul hx hb dX8_notes_13 ?_
      refine lv_aload_n hx hb dX8_notes_14 rfl (lv_at hl 0 rfl) ?_
      refine lv_iconst (v := 2) hx hb dX8_notes_15 (by decide) ?_
      refine lv_iload_n hx hb dX8_notes_16 rfl (lv_at hl 2 rfl) ?_
      refine lv_iload_n hx hb dX8_notes_17 rfl (lv_at hl 2 rfl) ?_
      obtain ⟨r2, hr3, h⟩ := bnd h
      refine ro_l (runV (As := [.int (2), .int v3, .int v3]) (rest := [.long (v1 * 2097152)]) cx hl.1 (ctX8_sum l g a_t t_acted t_taped t_faultKind t_faultPlace t_at t_begin t_token t_value t_bad t_wide t_lost t_det t_mask t_mode t_wanted t_orders t_foundAt t_foundBy t_unlikes t_mem t_row (2) v3 v3 r2 hr3) kmX8_sum kvX8_sum lm_X8_219 ⟨rfl, rfl⟩ ⟨Nat.le_of_ble_eq_true rfl, Nat.le_of_ble_eq_true rfl⟩ (roV (q0 := 0) (ci := 7) hG (hP.sub [0, 1, 2] rfl) hP rfl rfl) rfl rfl (Nat.le_of_ble_eq_true rfl) dX8_notes_18 ⟨Nat.le_of_ble_eq_true rfl, Nat.le_of_ble_eq_true rfl⟩) ?_
      refine lv_ladd hx hb dX8_notes_21 ?_
      refine lv_ldc2 (own := RX8) (v := 1048576) hx hb cx.2.2.2.1 (cx.2.2.2.2 _ cl_X8_372) dX8_notes_22 ?_
      refine lv_ladd hx hb dX8_notes_25 ?_
      refine lv_lstore_n (lv' := [(1, .long (((v1 * 2097152) + r2) + 1048576)), (0, .ref ((a_t 0))), (3, .int v3)]) hx hb dX8_notes_26 rfl hl (by decide) rfl (fun ls hl => ?_)
      refine lv_iinc (v := v3 + 1) (lv' := [(3, .int (v3 + 1)), (1, .long (((v1 * 2097152) + r2) + 1048576)), (0, .ref ((a_t 0)))]) hx hb dX8_notes_27 hl (k := 2) rfl rfl (by decide) rfl (fun ls hl => ?_)
      refine lv_goto (tgt := 4) hx hb dX8_notes_30 (by decide) ?_
      exact ih t_seen t_unlikes (((v1 * 2097152) + r2) + 1048576) (v3 + 1) _ _ hP hD hS _ (lv_sub hl [2, 1, 0] rfl) h
  unfold fX8_notes at h
  refine lv_lconst (v := 1) hx hb dX8_notes_0 (by decide) ?_
  refine lv_lstore_n (lv' := [(1, .long (1)), (0, .ref ((a_t 0)))]) hx hb dX8_notes_1 rfl hl (by decide) rfl (fun ls hl => ?_)
  refine lv_iconst (v := 0) hx hb dX8_notes_2 (by decide) ?_
  refine lv_istore_n (lv' := [(3, .int (0)), (1, .long (1)), (0, .ref ((a_t 0)))]) hx hb dX8_notes_3 rfl hl (by decide) rfl (fun ls hl => ?_)
  exact w4 FU t_seen t_unlikes 1 0 _ _ hP hD hS _ (lv_sub hl [2, 1, 0] rfl) h
