-- J6_bitCount_0f7a4
theorem dJ6_bitCount_0f7a4_0 : decode cJ6_bitCount_0f7a4 0 = .ok (.iload_n 0, 1) := by decide +kernel
theorem dJ6_bitCount_0f7a4_1 : decode cJ6_bitCount_0f7a4 1 = .ok (.iload_n 0, 1) := by decide +kernel
theorem dJ6_bitCount_0f7a4_2 : decode cJ6_bitCount_0f7a4 2 = .ok (.iconst 1, 1) := by decide +kernel
theorem dJ6_bitCount_0f7a4_3 : decode cJ6_bitCount_0f7a4 3 = .ok (.iushr, 1) := by decide +kernel
theorem dJ6_bitCount_0f7a4_4 : decode cJ6_bitCount_0f7a4 4 = .ok (.ldc_w 265, 3) := by decide +kernel
theorem dJ6_bitCount_0f7a4_7 : decode cJ6_bitCount_0f7a4 7 = .ok (.iand, 1) := by decide +kernel
theorem dJ6_bitCount_0f7a4_8 : decode cJ6_bitCount_0f7a4 8 = .ok (.isub, 1) := by decide +kernel
theorem dJ6_bitCount_0f7a4_9 : decode cJ6_bitCount_0f7a4 9 = .ok (.istore_n 0, 1) := by decide +kernel
theorem dJ6_bitCount_0f7a4_10 : decode cJ6_bitCount_0f7a4 10 = .ok (.iload_n 0, 1) := by decide +kernel
theorem dJ6_bitCount_0f7a4_11 : decode cJ6_bitCount_0f7a4 11 = .ok (.ldc_w 266, 3) := by decide +kernel
theorem dJ6_bitCount_0f7a4_14 : decode cJ6_bitCount_0f7a4 14 = .ok (.iand, 1) := by decide +kernel
theorem dJ6_bitCount_0f7a4_15 : decode cJ6_bitCount_0f7a4 15 = .ok (.iload_n 0, 1) := by decide +kernel
theorem dJ6_bitCount_0f7a4_16 : decode cJ6_bitCount_0f7a4 16 = .ok (.iconst 2, 1) := by decide +kernel
theorem dJ6_bitCount_0f7a4_17 : decode cJ6_bitCount_0f7a4 17 = .ok (.iushr, 1) := by decide +kernel
theorem dJ6_bitCount_0f7a4_18 : decode cJ6_bitCount_0f7a4 18 = .ok (.ldc_w 266, 3) := by decide +kernel
theorem dJ6_bitCount_0f7a4_21 : decode cJ6_bitCount_0f7a4 21 = .ok (.iand, 1) := by decide +kernel
theorem dJ6_bitCount_0f7a4_22 : decode cJ6_bitCount_0f7a4 22 = .ok (.iadd, 1) := by decide +kernel
theorem dJ6_bitCount_0f7a4_23 : decode cJ6_bitCount_0f7a4 23 = .ok (.istore_n 0, 1) := by decide +kernel
theorem dJ6_bitCount_0f7a4_24 : decode cJ6_bitCount_0f7a4 24 = .ok (.iload_n 0, 1) := by decide +kernel
theorem dJ6_bitCount_0f7a4_25 : decode cJ6_bitCount_0f7a4 25 = .ok (.iload_n 0, 1) := by decide +kernel
theorem dJ6_bitCount_0f7a4_26 : decode cJ6_bitCount_0f7a4 26 = .ok (.iconst 4, 1) := by decide +kernel
theorem dJ6_bitCount_0f7a4_27 : decode cJ6_bitCount_0f7a4 27 = .ok (.iushr, 1) := by decide +kernel
theorem dJ6_bitCount_0f7a4_28 : decode cJ6_bitCount_0f7a4 28 = .ok (.iadd, 1) := by decide +kernel
theorem dJ6_bitCount_0f7a4_29 : decode cJ6_bitCount_0f7a4 29 = .ok (.ldc_w 267, 3) := by decide +kernel
theorem dJ6_bitCount_0f7a4_32 : decode cJ6_bitCount_0f7a4 32 = .ok (.iand, 1) := by decide +kernel
theorem dJ6_bitCount_0f7a4_33 : decode cJ6_bitCount_0f7a4 33 = .ok (.istore_n 0, 1) := by decide +kernel
theorem dJ6_bitCount_0f7a4_34 : decode cJ6_bitCount_0f7a4 34 = .ok (.iload_n 0, 1) := by decide +kernel
theorem dJ6_bitCount_0f7a4_35 : decode cJ6_bitCount_0f7a4 35 = .ok (.iload_n 0, 1) := by decide +kernel
theorem dJ6_bitCount_0f7a4_36 : decode cJ6_bitCount_0f7a4 36 = .ok (.bipush 8, 2) := by decide +kernel
theorem dJ6_bitCount_0f7a4_38 : decode cJ6_bitCount_0f7a4 38 = .ok (.iushr, 1) := by decide +kernel
theorem dJ6_bitCount_0f7a4_39 : decode cJ6_bitCount_0f7a4 39 = .ok (.iadd, 1) := by decide +kernel
theorem dJ6_bitCount_0f7a4_40 : decode cJ6_bitCount_0f7a4 40 = .ok (.istore_n 0, 1) := by decide +kernel
theorem dJ6_bitCount_0f7a4_41 : decode cJ6_bitCount_0f7a4 41 = .ok (.iload_n 0, 1) := by decide +kernel
theorem dJ6_bitCount_0f7a4_42 : decode cJ6_bitCount_0f7a4 42 = .ok (.iload_n 0, 1) := by decide +kernel
theorem dJ6_bitCount_0f7a4_43 : decode cJ6_bitCount_0f7a4 43 = .ok (.bipush 16, 2) := by decide +kernel
theorem dJ6_bitCount_0f7a4_45 : decode cJ6_bitCount_0f7a4 45 = .ok (.iushr, 1) := by decide +kernel
theorem dJ6_bitCount_0f7a4_46 : decode cJ6_bitCount_0f7a4 46 = .ok (.iadd, 1) := by decide +kernel
theorem dJ6_bitCount_0f7a4_47 : decode cJ6_bitCount_0f7a4 47 = .ok (.istore_n 0, 1) := by decide +kernel
theorem dJ6_bitCount_0f7a4_48 : decode cJ6_bitCount_0f7a4 48 = .ok (.iload_n 0, 1) := by decide +kernel
theorem dJ6_bitCount_0f7a4_49 : decode cJ6_bitCount_0f7a4 49 = .ok (.bipush 63, 2) := by decide +kernel
theorem dJ6_bitCount_0f7a4_51 : decode cJ6_bitCount_0f7a4 51 = .ok (.iand, 1) := by decide +kernel
theorem dJ6_bitCount_0f7a4_52 : decode cJ6_bitCount_0f7a4 52 = .ok (.ireturn, 1) := by decide +kernel
noncomputable def fJ6_bitCount_0f7a4  (v0 : Int32) : Int32 := ((((((((v0 - ((iushr v0 1) &&& 1431655765)) &&& 858993459) + ((iushr (v0 - ((iushr v0 1) &&& 1431655765)) 2) &&& 858993459)) + (iushr (((v0 - ((iushr v0 1) &&& 1431655765)) &&& 858993459) + ((iushr (v0 - ((iushr v0 1) &&& 1431655765)) 2) &&& 858993459)) 4)) &&& 252645135) + (iushr (((((v0 - ((iushr v0 1) &&& 1431655765)) &&& 858993459) + ((iushr (v0 - ((iushr v0 1) &&& 1431655765)) 2) &&& 858993459)) + (iushr (((v0 - ((iushr v0 1) &&& 1431655765)) &&& 858993459) + ((iushr (v0 - ((iushr v0 1) &&& 1431655765)) 2) &&& 858993459)) 4)) &&& 252645135) 8)) + (iushr ((((((v0 - ((iushr v0 1) &&& 1431655765)) &&& 858993459) + ((iushr (v0 - ((iushr v0 1) &&& 1431655765)) 2) &&& 858993459)) + (iushr (((v0 - ((iushr v0 1) &&& 1431655765)) &&& 858993459) + ((iushr (v0 - ((iushr v0 1) &&& 1431655765)) 2) &&& 858993459)) 4)) &&& 252645135) + (iushr (((((v0 - ((iushr v0 1) &&& 1431655765)) &&& 858993459) + ((iushr (v0 - ((iushr v0 1) &&& 1431655765)) 2) &&& 858993459)) + (iushr (((v0 - ((iushr v0 1) &&& 1431655765)) &&& 858993459) + ((iushr (v0 - ((iushr v0 1) &&& 1431655765)) 2) &&& 858993459)) 4)) &&& 252645135) 8)) 16)) &&& 63)
set_option maxHeartbeats 4000000 in
set_option maxRecDepth 100000 in
theorem ctJ6_bitCount_0f7a4 (l : Launch) (g : GT) (v0 : Int32) (o : Int32) (h : fJ6_bitCount_0f7a4 v0 = o) : Met l yJ6_bitCount_0f7a4 (Cond.code yJ6_bitCount_0f7a4 cJ6_bitCount_0f7a4 1 (some .int) :: Tw) ⟨0, 0, 0, 0⟩ (va_Pc [.int v0] (roB g [])) (vp_Si (fun x => x = o)) 0 0 (fun _ => False) := by
  refine ro_meti (by decide) (Nat.le_of_ble_eq_true rfl) (lv0 := [(0, .int v0)]) rfl ?_
  intro p e s m args below meth c ls Q cx hret hG hP hl
  have hx := cx.1
  have hb := cx.2.1
  have hG0 := hG
  unfold fJ6_bitCount_0f7a4 at h
  refine lv_iload_n hx hb dJ6_bitCount_0f7a4_0 rfl (lv_at hl 0 rfl) ?_
  refine lv_iload_n hx hb dJ6_bitCount_0f7a4_1 rfl (lv_at hl 0 rfl) ?_
  refine lv_iconst (v := 1) hx hb dJ6_bitCount_0f7a4_2 (by decide) ?_
  refine lv_iushr (v := iushr v0 1) hx hb dJ6_bitCount_0f7a4_3 rfl ?_
  refine lv_ldcw (own := RJ6) (v := 1431655765) hx hb cx.2.2.2.1 (cx.2.2.2.2 _ ci_J6_265) dJ6_bitCount_0f7a4_4 ?_
  refine lv_iand hx hb dJ6_bitCount_0f7a4_7 ?_
  refine lv_isub hx hb dJ6_bitCount_0f7a4_8 ?_
  refine lv_istore_n (lv' := [(0, .int (v0 - ((iushr v0 1) &&& 1431655765)))]) hx hb dJ6_bitCount_0f7a4_9 rfl hl (by decide) rfl (fun ls hl => ?_)
  refine lv_iload_n hx hb dJ6_bitCount_0f7a4_10 rfl (lv_at hl 0 rfl) ?_
  refine lv_ldcw (own := RJ6) (v := 858993459) hx hb cx.2.2.2.1 (cx.2.2.2.2 _ ci_J6_266) dJ6_bitCount_0f7a4_11 ?_
  refine lv_iand hx hb dJ6_bitCount_0f7a4_14 ?_
  refine lv_iload_n hx hb dJ6_bitCount_0f7a4_15 rfl (lv_at hl 0 rfl) ?_
  refine lv_iconst (v := 2) hx hb dJ6_bitCount_0f7a4_16 (by decide) ?_
  refine lv_iushr (v := iushr (v0 - ((iushr v0 1) &&& 1431655765)) 2) hx hb dJ6_bitCount_0f7a4_17 rfl ?_
  refine lv_ldcw (own := RJ6) (v := 858993459) hx hb cx.2.2.2.1 (cx.2.2.2.2 _ ci_J6_266) dJ6_bitCount_0f7a4_18 ?_
  refine lv_iand hx hb dJ6_bitCount_0f7a4_21 ?_
  refine lv_iadd hx hb dJ6_bitCount_0f7a4_22 ?_
  refine lv_istore_n (lv' := [(0, .int (((v0 - ((iushr v0 1) &&& 1431655765)) &&& 858993459) + ((iushr (v0 - ((iushr v0 1) &&& 1431655765)) 2) &&& 858993459)))]) hx hb dJ6_bitCount_0f7a4_23 rfl hl (by decide) rfl (fun ls hl => ?_)
  refine lv_iload_n hx hb dJ6_bitCount_0f7a4_24 rfl (lv_at hl 0 rfl) ?_
  refine lv_iload_n hx hb dJ6_bitCount_0f7a4_25 rfl (lv_at hl 0 rfl) ?_
  refine lv_iconst (v := 4) hx hb dJ6_bitCount_0f7a4_26 (by decide) ?_
  refine lv_iushr (v := iushr (((v0 - ((iushr v0 1) &&& 1431655765)) &&& 858993459) + ((iushr (v0 - ((iushr v0 1) &&& 1431655765)) 2) &&& 858993459)) 4) hx hb dJ6_bitCount_0f7a4_27 rfl ?_
  refine lv_iadd hx hb dJ6_bitCount_0f7a4_28 ?_
  refine lv_ldcw (own := RJ6) (v := 252645135) hx hb cx.2.2.2.1 (cx.2.2.2.2 _ ci_J6_267) dJ6_bitCount_0f7a4_29 ?_
  refine lv_iand hx hb dJ6_bitCount_0f7a4_32 ?_
  refine lv_istore_n (lv' := [(0, .int (((((v0 - ((iushr v0 1) &&& 1431655765)) &&& 858993459) + ((iushr (v0 - ((iushr v0 1) &&& 1431655765)) 2) &&& 858993459)) + (iushr (((v0 - ((iushr v0 1) &&& 1431655765)) &&& 858993459) + ((iushr (v0 - ((iushr v0 1) &&& 1431655765)) 2) &&& 858993459)) 4)) &&& 252645135))]) hx hb dJ6_bitCount_0f7a4_33 rfl hl (by decide) rfl (fun ls hl => ?_)
  refine lv_iload_n hx hb dJ6_bitCount_0f7a4_34 rfl (lv_at hl 0 rfl) ?_
  refine lv_iload_n hx hb dJ6_bitCount_0f7a4_35 rfl (lv_at hl 0 rfl) ?_
  refine lv_bipush (v := 8) hx hb dJ6_bitCount_0f7a4_36 (by decide) ?_
  refine lv_iushr (v := iushr (((((v0 - ((iushr v0 1) &&& 1431655765)) &&& 858993459) + ((iushr (v0 - ((iushr v0 1) &&& 1431655765)) 2) &&& 858993459)) + (iushr (((v0 - ((iushr v0 1) &&& 1431655765)) &&& 858993459) + ((iushr (v0 - ((iushr v0 1) &&& 1431655765)) 2) &&& 858993459)) 4)) &&& 252645135) 8) hx hb dJ6_bitCount_0f7a4_38 rfl ?_
  refine lv_iadd hx hb dJ6_bitCount_0f7a4_39 ?_
  refine lv_istore_n (lv' := [(0, .int ((((((v0 - ((iushr v0 1) &&& 1431655765)) &&& 858993459) + ((iushr (v0 - ((iushr v0 1) &&& 1431655765)) 2) &&& 858993459)) + (iushr (((v0 - ((iushr v0 1) &&& 1431655765)) &&& 858993459) + ((iushr (v0 - ((iushr v0 1) &&& 1431655765)) 2) &&& 858993459)) 4)) &&& 252645135) + (iushr (((((v0 - ((iushr v0 1) &&& 1431655765)) &&& 858993459) + ((iushr (v0 - ((iushr v0 1) &&& 1431655765)) 2) &&& 858993459)) + (iushr (((v0 - ((iushr v0 1) &&& 1431655765)) &&& 858993459) + ((iushr (v0 - ((iushr v0 1) &&& 1431655765)) 2) &&& 858993459)) 4)) &&& 252645135) 8)))]) hx hb dJ6_bitCount_0f7a4_40 rfl hl (by decide) rfl (fun ls hl => ?_)
  refine lv_iload_n hx hb dJ6_bitCount_0f7a4_41 rfl (lv_at hl 0 rfl) ?_
  refine lv_iload_n hx hb dJ6_bitCount_0f7a4_42 rfl (lv_at hl 0 rfl) ?_
  refine lv_bipush (v := 16) hx hb dJ6_bitCount_0f7a4_43 (by decide) ?_
  refine lv_iushr (v := iushr ((((((v0 - ((iushr v0 1) &&& 1431655765)) &&& 858993459) + ((iushr (v0 - ((iushr v0 1) &&& 1431655765)) 2) &&& 858993459)) + (iushr (((v0 - ((iushr v0 1) &&& 1431655765)) &&& 858993459) + ((iushr (v0 - ((iushr v0 1) &&& 1431655765)) 2) &&& 858993459)) 4)) &&& 252645135) + (iushr (((((v0 - ((iushr v0 1) &&& 1431655765)) &&& 858993459) + ((iushr (v0 - ((iushr v0 1) &&& 1431655765)) 2) &&& 858993459)) + (iushr (((v0 - ((iushr v0 1) &&& 1431655765)) &&& 858993459) + ((iushr (v0 - ((iushr v0 1) &&& 1431655765)) 2) &&& 858993459)) 4)) &&& 252645135) 8)) 16) hx hb dJ6_bitCount_0f7a4_45 rfl ?_
  refine lv_iadd hx hb dJ6_bitCount_0f7a4_46 ?_
  refine lv_istore_n (lv' := [(0, .int (((((((v0 - ((iushr v0 1) &&& 1431655765)) &&& 858993459) + ((iushr (v0 - ((iushr v0 1) &&& 1431655765)) 2) &&& 858993459)) + (iushr (((v0 - ((iushr v0 1) &&& 1431655765)) &&& 858993459) + ((iushr (v0 - ((iushr v0 1) &&& 1431655765)) 2) &&& 858993459)) 4)) &&& 252645135) + (iushr (((((v0 - ((iushr v0 1) &&& 1431655765)) &&& 858993459) + ((iushr (v0 - ((iushr v0 1) &&& 1431655765)) 2) &&& 858993459)) + (iushr (((v0 - ((iushr v0 1) &&& 1431655765)) &&& 858993459) + ((iushr (v0 - ((iushr v0 1) &&& 1431655765)) 2) &&& 858993459)) 4)) &&& 252645135) 8)) + (iushr ((((((v0 - ((iushr v0 1) &&& 1431655765)) &&& 858993459) + ((iushr (v0 - ((iushr v0 1) &&& 1431655765)) 2) &&& 858993459)) + (iushr (((v0 - ((iushr v0 1) &&& 1431655765)) &&& 858993459) + ((iushr (v0 - ((iushr v0 1) &&& 1431655765)) 2) &&& 858993459)) 4)) &&& 252645135) + (iushr (((((v0 - ((iushr v0 1) &&& 1431655765)) &&& 858993459) + ((iushr (v0 - ((iushr v0 1) &&& 1431655765)) 2) &&& 858993459)) + (iushr (((v0 - ((iushr v0 1) &&& 1431655765)) &&& 858993459) + ((iushr (v0 - ((iushr v0 1) &&& 1431655765)) 2) &&& 858993459)) 4)) &&& 252645135) 8)) 16)))]) hx hb dJ6_bitCount_0f7a4_47 rfl hl (by decide) rfl (fun ls hl => ?_)
  refine lv_iload_n hx hb dJ6_bitCount_0f7a4_48 rfl (lv_at hl 0 rfl) ?_
  refine lv_bipush (v := 63) hx hb dJ6_bitCount_0f7a4_49 (by decide) ?_
  refine lv_iand hx hb dJ6_bitCount_0f7a4_51 ?_
  exact hret _ _ _ dJ6_bitCount_0f7a4_52 h
-- J7_fill_d0a16
theorem dJ7_fill_d0a16_0 : decode cJ7_fill_d0a16 0 = .ok (.iconst 0, 1) := by decide +kernel
theorem dJ7_fill_d0a16_1 : decode cJ7_fill_d0a16 1 = .ok (.istore_n 3, 1) := by decide +kernel
theorem dJ7_fill_d0a16_2 : decode cJ7_fill_d0a16 2 = .ok (.aload_n 0, 1) := by decide +kernel
theorem dJ7_fill_d0a16_3 : decode cJ7_fill_d0a16 3 = .ok (.arraylength, 1) := by decide +kernel
theorem dJ7_fill_d0a16_4 : decode cJ7_fill_d0a16 4 = .ok (.istore 4, 2) := by decide +kernel
theorem dJ7_fill_d0a16_6 : decode cJ7_fill_d0a16 6 = .ok (.iload_n 3, 1) := by decide +kernel
theorem dJ7_fill_d0a16_7 : decode cJ7_fill_d0a16 7 = .ok (.iload 4, 2) := by decide +kernel
theorem dJ7_fill_d0a16_9 : decode cJ7_fill_d0a16 9 = .ok (.if_icmp .ge 13, 3) := by decide +kernel
theorem dJ7_fill_d0a16_12 : decode cJ7_fill_d0a16 12 = .ok (.aload_n 0, 1) := by decide +kernel
theorem dJ7_fill_d0a16_13 : decode cJ7_fill_d0a16 13 = .ok (.iload_n 3, 1) := by decide +kernel
theorem dJ7_fill_d0a16_14 : decode cJ7_fill_d0a16 14 = .ok (.lload_n 1, 1) := by decide +kernel
theorem dJ7_fill_d0a16_15 : decode cJ7_fill_d0a16 15 = .ok (.lastore, 1) := by decide +kernel
theorem dJ7_fill_d0a16_16 : decode cJ7_fill_d0a16 16 = .ok (.iinc 3 1, 3) := by decide +kernel
theorem dJ7_fill_d0a16_19 : decode cJ7_fill_d0a16 19 = .ok (.goto (-13), 3) := by decide +kernel
theorem dJ7_fill_d0a16_22 : decode cJ7_fill_d0a16 22 = .ok (.return_, 1) := by decide +kernel
noncomputable def fJ7_fill_d0a16_6  : Nat → Nat → (Nat → Int64) → Int64 → Int32 → Int32 → Option ((Nat → Int64))
  | 0, _, _, _, _, _ => none
  | n + 1, p1_n, p1, v1, v3, v4 => (if v4 ≤ v3 then some p1 else chk p1_n v3 (fJ7_fill_d0a16_6 n p1_n (vp_updL p1 v3.toNatClampNeg v1) v1 (v3 + 1) v4))
theorem fJ7_fill_d0a16_6_z  (p1_n : Nat) (p1 : Nat → Int64) (v1 : Int64) (v3 : Int32) (v4 : Int32) : fJ7_fill_d0a16_6  0 p1_n p1 v1 v3 v4 = none := rfl
theorem fJ7_fill_d0a16_6_s  (n : Nat) (p1_n : Nat) (p1 : Nat → Int64) (v1 : Int64) (v3 : Int32) (v4 : Int32) : fJ7_fill_d0a16_6  (n + 1) p1_n p1 v1 v3 v4 = (if v4 ≤ v3 then some p1 else chk p1_n v3 (fJ7_fill_d0a16_6 n p1_n (vp_updL p1 v3.toNatClampNeg v1) v1 (v3 + 1) v4)) := rfl
noncomputable def fJ7_fill_d0a16  (p1_n : Nat) (p1 : Nat → Int64) (v1 : Int64) : Option ((Nat → Int64)) := fJ7_fill_d0a16_6 FU p1_n p1 v1 0 (nI p1_n)
set_option maxHeartbeats 4000000 in
set_option maxRecDepth 100000 in
theorem ctJ7_fill_d0a16 (l : Launch) (g : GT) (sz : Nat) (b_p1 : Nat) (p1_n : Nat) (p1 : Nat → Int64) (v1 : Int64) (o_p1 : Nat → Int64) (h : fJ7_fill_d0a16 p1_n p1 v1 = some (o_p1)) : Met l yJ7_fill_d0a16 (Cond.code yJ7_fill_d0a16 cJ7_fill_d0a16 5 none :: Tw) ⟨0, 0, 0, 0⟩ (va_Pc [.ref b_p1, .long v1] (rwB g [(b_p1, .inl (g.2.2.1 1, p1_n, .inr (.inl p1)))] sz)) (va_Qv (fun (_ : Nat → Nat) => True) (fun u => rwE g (va_A [(b_p1, .inl (g.2.2.1 1, p1_n, .inr (.inl p1)))] sz) [(b_p1, .inl (g.2.2.1 1, p1_n, .inr (.inl o_p1)))]) (va_A [(b_p1, .inl (g.2.2.1 1, p1_n, .inr (.inl p1)))] sz)) 0 0 (va_A [(b_p1, .inl (g.2.2.1 1, p1_n, .inr (.inl p1)))] sz) := by
  refine rw_metv (by decide) (Nat.le_of_ble_eq_true rfl) (lv0 := [(0, .ref b_p1), (1, .long v1)]) rfl ?_
  intro p e s m args below meth c ls Q A cx hret hG hAb hb0 hA hP hD hl
  have hx := cx.1
  have hb := cx.2.1
  have hG0 := hG
  have hGk : ∀ {H : Heap} {locs : List Loc}, va_S A s.heap H locs → GE g s H := fun hS => hG0.keptS hAb hS
  have hSb : ∀ {H : Heap} {locs : List Loc}, va_S A s.heap H locs → va_S (fun a => g.1 ≤ a) s.heap H locs := fun hS => ⟨hS.1, fun q h1 h2 => hS.2.1 q h1 (fun z => h2 (hAb q z)), fun l hl => hAb _ (hS.2.2 l hl)⟩
  have hS : va_S A s.heap s.heap [] := va_S.rf
  have hrt : ∀ (u : Nat → Nat) (pc : Nat) (ls : Array Slot) (x_p1 : Nat → Int64) (H : Heap) (locs : List Loc), decode cJ7_fill_d0a16 pc = .ok (.return_, 1) → some (x_p1) = some (o_p1) → va_P g.2.1 vwCl [(b_p1, .inl (g.2.2.1 1, p1_n, .inr (.inl x_p1)))] H → va_D A [(b_p1, .inl (g.2.2.1 1, p1_n, .inr (.inl x_p1)))] → va_S A s.heap H locs → W p l e ⟨0, 0, 0, 0⟩ s m args below meth c H locs 0 0 Q (F0 m pc ls []) := by
    intro u pc ls x_p1 H locs hd h hP hD hS
    cases h
    exact hret u _ _ _ _ hd hP hD hS
  have w6 : ∀ (n : Nat) (p1 : Nat → Int64) (v1 : Int64) (v3 : Int32) (v4 : Int32) (H : Heap) (locs : List Loc), va_P g.2.1 vwCl [(b_p1, .inl (g.2.2.1 1, p1_n, .inr (.inl p1)))] H → va_D A [(b_p1, .inl (g.2.2.1 1, p1_n, .inr (.inl p1)))] → va_S A s.heap H locs → ∀ (ls : Array Slot), lv_has ls 5 [(0, .ref b_p1), (1, .long v1), (3, .int v3), (4, .int v4)] → fJ7_fill_d0a16_6  n p1_n p1 v1 v3 v4 = some (o_p1) → W p l e ⟨0, 0, 0, 0⟩ s m args below meth c H locs 0 0 Q (F0 m 6 ls []) := by
    intro n
    induction n with
    | zero => intro p1 v1 v3 v4 H locs hP hD hS ls hl h; cases (fJ7_fill_d0a16_6_z  p1_n p1 v1 v3 v4).symm.trans h
    | succ n ih =>
    intro p1 v1 v3 v4 H locs hP hD hS ls hl h
    have h := (fJ7_fill_d0a16_6_s  n p1_n p1 v1 v3 v4).symm.trans h
    have hG := hGk hS
    refine lv_iload_n hx hb dJ7_fill_d0a16_6 rfl (lv_at hl 2 rfl) ?_
    refine lv_iload hx hb dJ7_fill_d0a16_7 (lv_at hl 3 rfl) ?_
    refine lv_icmp_ge (tgt := 22) hx hb dJ7_fill_d0a16_9 (by decide) (fun c1 => ?_) (fun c1 => ?_)
    · have h := itp c1 h
      exact hrt (fun _ => 0) _ _ p1 _ _ dJ7_fill_d0a16_22 h (hP.sub [0] rfl) (hD.sub [0] (by decide) rfl) hS
    · have h := itn c1 h
      refine lv_aload_n hx hb dJ7_fill_d0a16_12 rfl (lv_at hl 0 rfl) ?_
      refine lv_iload_n hx hb dJ7_fill_d0a16_13 rfl (lv_at hl 2 rfl) ?_
      refine lv_lload_n hx hb dJ7_fill_d0a16_14 rfl (lv_at hl 1 rfl) ?_
      obtain ⟨hi2, h⟩ := chk_out h
      refine xw_last (ws' := [(b_p1, .inl (g.2.2.1 1, p1_n, .inr (.inl (vp_updL p1 v3.toNatClampNeg v1))))]) (k := v3.toNatClampNeg) cx hG hP hD hS 0 rfl hi2 rfl rfl dJ7_fill_d0a16_15 (fun H locs hP hD hS => ?_)
      have hG := hGk hS
      refine lv_iinc (v := v3 + 1) (lv' := [(3, .int (v3 + 1)), (0, .ref b_p1), (1, .long v1), (4, .int v4)]) hx hb dJ7_fill_d0a16_16 hl (k := 2) rfl rfl (by decide) rfl (fun ls hl => ?_)
      refine lv_goto (tgt := 6) hx hb dJ7_fill_d0a16_19 (by decide) ?_
      exact ih (vp_updL p1 v3.toNatClampNeg v1) v1 (v3 + 1) v4 _ _ hP hD hS _ (lv_sub hl [1, 2, 0, 3] rfl) h
  unfold fJ7_fill_d0a16 at h
  refine lv_iconst (v := 0) hx hb dJ7_fill_d0a16_0 (by decide) ?_
  refine lv_istore_n (lv' := [(3, .int (0)), (0, .ref b_p1), (1, .long v1)]) hx hb dJ7_fill_d0a16_1 rfl hl (by decide) rfl (fun ls hl => ?_)
  refine lv_aload_n hx hb dJ7_fill_d0a16_2 rfl (lv_at hl 1 rfl) ?_
  refine xa_len cx hG hP 0 rfl 1 rfl (v := nI p1_n) rfl dJ7_fill_d0a16_3 ?_
  refine lv_istore (lv' := [(4, .int (nI p1_n)), (3, .int (0)), (0, .ref b_p1), (1, .long v1)]) hx hb dJ7_fill_d0a16_4 hl (by decide) rfl (fun ls hl => ?_)
  exact w6 FU p1 v1 0 (nI p1_n) _ _ hP hD hS _ (lv_sub hl [2, 3, 1, 0] rfl) h
-- J7_fill_53178
theorem dJ7_fill_53178_0 : decode cJ7_fill_53178 0 = .ok (.iconst 0, 1) := by decide +kernel
theorem dJ7_fill_53178_1 : decode cJ7_fill_53178 1 = .ok (.istore_n 2, 1) := by decide +kernel
theorem dJ7_fill_53178_2 : decode cJ7_fill_53178 2 = .ok (.aload_n 0, 1) := by decide +kernel
theorem dJ7_fill_53178_3 : decode cJ7_fill_53178 3 = .ok (.arraylength, 1) := by decide +kernel
theorem dJ7_fill_53178_4 : decode cJ7_fill_53178 4 = .ok (.istore_n 3, 1) := by decide +kernel
theorem dJ7_fill_53178_5 : decode cJ7_fill_53178 5 = .ok (.iload_n 2, 1) := by decide +kernel
theorem dJ7_fill_53178_6 : decode cJ7_fill_53178 6 = .ok (.iload_n 3, 1) := by decide +kernel
theorem dJ7_fill_53178_7 : decode cJ7_fill_53178 7 = .ok (.if_icmp .ge 13, 3) := by decide +kernel
theorem dJ7_fill_53178_10 : decode cJ7_fill_53178 10 = .ok (.aload_n 0, 1) := by decide +kernel
theorem dJ7_fill_53178_11 : decode cJ7_fill_53178 11 = .ok (.iload_n 2, 1) := by decide +kernel
theorem dJ7_fill_53178_12 : decode cJ7_fill_53178 12 = .ok (.iload_n 1, 1) := by decide +kernel
theorem dJ7_fill_53178_13 : decode cJ7_fill_53178 13 = .ok (.iastore, 1) := by decide +kernel
theorem dJ7_fill_53178_14 : decode cJ7_fill_53178 14 = .ok (.iinc 2 1, 3) := by decide +kernel
theorem dJ7_fill_53178_17 : decode cJ7_fill_53178 17 = .ok (.goto (-12), 3) := by decide +kernel
theorem dJ7_fill_53178_20 : decode cJ7_fill_53178 20 = .ok (.return_, 1) := by decide +kernel
noncomputable def fJ7_fill_53178_5  : Nat → Nat → (Nat → Int32) → Int32 → Int32 → Int32 → Option ((Nat → Int32))
  | 0, _, _, _, _, _ => none
  | n + 1, p1_n, p1, v1, v2, v3 => (if v3 ≤ v2 then some p1 else chk p1_n v2 (fJ7_fill_53178_5 n p1_n (upd p1 v2.toNatClampNeg v1) v1 (v2 + 1) v3))
theorem fJ7_fill_53178_5_z  (p1_n : Nat) (p1 : Nat → Int32) (v1 : Int32) (v2 : Int32) (v3 : Int32) : fJ7_fill_53178_5  0 p1_n p1 v1 v2 v3 = none := rfl
theorem fJ7_fill_53178_5_s  (n : Nat) (p1_n : Nat) (p1 : Nat → Int32) (v1 : Int32) (v2 : Int32) (v3 : Int32) : fJ7_fill_53178_5  (n + 1) p1_n p1 v1 v2 v3 = (if v3 ≤ v2 then some p1 else chk p1_n v2 (fJ7_fill_53178_5 n p1_n (upd p1 v2.toNatClampNeg v1) v1 (v2 + 1) v3)) := rfl
noncomputable def fJ7_fill_53178  (p1_n : Nat) (p1 : Nat → Int32) (v1 : Int32) : Option ((Nat → Int32)) := fJ7_fill_53178_5 FU p1_n p1 v1 0 (nI p1_n)
set_option maxHeartbeats 4000000 in
set_option maxRecDepth 100000 in
theorem ctJ7_fill_53178 (l : Launch) (g : GT) (sz : Nat) (b_p1 : Nat) (p1_n : Nat) (p1 : Nat → Int32) (v1 : Int32) (o_p1 : Nat → Int32) (h : fJ7_fill_53178 p1_n p1 v1 = some (o_p1)) : Met l yJ7_fill_53178 (Cond.code yJ7_fill_53178 cJ7_fill_53178 4 none :: Tw) ⟨0, 0, 0, 0⟩ (va_Pc [.ref b_p1, .int v1] (rwB g [(b_p1, .inl (g.2.2.1 0, p1_n, .inl p1))] sz)) (va_Qv (fun (_ : Nat → Nat) => True) (fun u => rwE g (va_A [(b_p1, .inl (g.2.2.1 0, p1_n, .inl p1))] sz) [(b_p1, .inl (g.2.2.1 0, p1_n, .inl o_p1))]) (va_A [(b_p1, .inl (g.2.2.1 0, p1_n, .inl p1))] sz)) 0 0 (va_A [(b_p1, .inl (g.2.2.1 0, p1_n, .inl p1))] sz) := by
  refine rw_metv (by decide) (Nat.le_of_ble_eq_true rfl) (lv0 := [(0, .ref b_p1), (1, .int v1)]) rfl ?_
  intro p e s m args below meth c ls Q A cx hret hG hAb hb0 hA hP hD hl
  have hx := cx.1
  have hb := cx.2.1
  have hG0 := hG
  have hGk : ∀ {H : Heap} {locs : List Loc}, va_S A s.heap H locs → GE g s H := fun hS => hG0.keptS hAb hS
  have hSb : ∀ {H : Heap} {locs : List Loc}, va_S A s.heap H locs → va_S (fun a => g.1 ≤ a) s.heap H locs := fun hS => ⟨hS.1, fun q h1 h2 => hS.2.1 q h1 (fun z => h2 (hAb q z)), fun l hl => hAb _ (hS.2.2 l hl)⟩
  have hS : va_S A s.heap s.heap [] := va_S.rf
  have hrt : ∀ (u : Nat → Nat) (pc : Nat) (ls : Array Slot) (x_p1 : Nat → Int32) (H : Heap) (locs : List Loc), decode cJ7_fill_53178 pc = .ok (.return_, 1) → some (x_p1) = some (o_p1) → va_P g.2.1 vwCl [(b_p1, .inl (g.2.2.1 0, p1_n, .inl x_p1))] H → va_D A [(b_p1, .inl (g.2.2.1 0, p1_n, .inl x_p1))] → va_S A s.heap H locs → W p l e ⟨0, 0, 0, 0⟩ s m args below meth c H locs 0 0 Q (F0 m pc ls []) := by
    intro u pc ls x_p1 H locs hd h hP hD hS
    cases h
    exact hret u _ _ _ _ hd hP hD hS
  have w5 : ∀ (n : Nat) (p1 : Nat → Int32) (v1 : Int32) (v2 : Int32) (v3 : Int32) (H : Heap) (locs : List Loc), va_P g.2.1 vwCl [(b_p1, .inl (g.2.2.1 0, p1_n, .inl p1))] H → va_D A [(b_p1, .inl (g.2.2.1 0, p1_n, .inl p1))] → va_S A s.heap H locs → ∀ (ls : Array Slot), lv_has ls 4 [(0, .ref b_p1), (1, .int v1), (2, .int v2), (3, .int v3)] → fJ7_fill_53178_5  n p1_n p1 v1 v2 v3 = some (o_p1) → W p l e ⟨0, 0, 0, 0⟩ s m args below meth c H locs 0 0 Q (F0 m 5 ls []) := by
    intro n
    induction n with
    | zero => intro p1 v1 v2 v3 H locs hP hD hS ls hl h; cases (fJ7_fill_53178_5_z  p1_n p1 v1 v2 v3).symm.trans h
    | succ n ih =>
    intro p1 v1 v2 v3 H locs hP hD hS ls hl h
    have h := (fJ7_fill_53178_5_s  n p1_n p1 v1 v2 v3).symm.trans h
    have hG := hGk hS
    refine lv_iload_n hx hb dJ7_fill_53178_5 rfl (lv_at hl 2 rfl) ?_
    refine lv_iload_n hx hb dJ7_fill_53178_6 rfl (lv_at hl 3 rfl) ?_
    refine lv_icmp_ge (tgt := 20) hx hb dJ7_fill_53178_7 (by decide) (fun c1 => ?_) (fun c1 => ?_)
    · have h := itp c1 h
      exact hrt (fun _ => 0) _ _ p1 _ _ dJ7_fill_53178_20 h (hP.sub [0] rfl) (hD.sub [0] (by decide) rfl) hS
    · have h := itn c1 h
      refine lv_aload_n hx hb dJ7_fill_53178_10 rfl (lv_at hl 0 rfl) ?_
      refine lv_iload_n hx hb dJ7_fill_53178_11 rfl (lv_at hl 2 rfl) ?_
      refine lv_iload_n hx hb dJ7_fill_53178_12 rfl (lv_at hl 1 rfl) ?_
      obtain ⟨hi2, h⟩ := chk_out h
      refine xw_iast (ws' := [(b_p1, .inl (g.2.2.1 0, p1_n, .inl (upd p1 v2.toNatClampNeg v1)))]) (k := v2.toNatClampNeg) cx hG hP hD hS 0 rfl hi2 rfl rfl dJ7_fill_53178_13 (fun H locs hP hD hS => ?_)
      have hG := hGk hS
      refine lv_iinc (v := v2 + 1) (lv' := [(2, .int (v2 + 1)), (0, .ref b_p1), (1, .int v1), (3, .int v3)]) hx hb dJ7_fill_53178_14 hl (k := 2) rfl rfl (by decide) rfl (fun ls hl => ?_)
      refine lv_goto (tgt := 5) hx hb dJ7_fill_53178_17 (by decide) ?_
      exact ih (upd p1 v2.toNatClampNeg v1) v1 (v2 + 1) v3 _ _ hP hD hS _ (lv_sub hl [1, 2, 0, 3] rfl) h
  unfold fJ7_fill_53178 at h
  refine lv_iconst (v := 0) hx hb dJ7_fill_53178_0 (by decide) ?_
  refine lv_istore_n (lv' := [(2, .int (0)), (0, .ref b_p1), (1, .int v1)]) hx hb dJ7_fill_53178_1 rfl hl (by decide) rfl (fun ls hl => ?_)
  refine lv_aload_n hx hb dJ7_fill_53178_2 rfl (lv_at hl 1 rfl) ?_
  refine xa_len cx hG hP 0 rfl 0 rfl (v := nI p1_n) rfl dJ7_fill_53178_3 ?_
  refine lv_istore_n (lv' := [(3, .int (nI p1_n)), (2, .int (0)), (0, .ref b_p1), (1, .int v1)]) hx hb dJ7_fill_53178_4 rfl hl (by decide) rfl (fun ls hl => ?_)
  exact w5 FU p1 v1 0 (nI p1_n) _ _ hP hD hS _ (lv_sub hl [2, 3, 1, 0] rfl) h
-- X3_typeAt
theorem dX3_typeAt_0 : decode cX3_typeAt 0 = .ok (.iload_n 0, 1) := by decide +kernel
theorem dX3_typeAt_1 : decode cX3_typeAt 1 = .ok (.iconst 4, 1) := by decide +kernel
theorem dX3_typeAt_2 : decode cX3_typeAt 2 = .ok (.iload_n 1, 1) := by decide +kernel
theorem dX3_typeAt_3 : decode cX3_typeAt 3 = .ok (.imul, 1) := by decide +kernel
theorem dX3_typeAt_4 : decode cX3_typeAt 4 = .ok (.iushr, 1) := by decide +kernel
theorem dX3_typeAt_5 : decode cX3_typeAt 5 = .ok (.bipush 15, 2) := by decide +kernel
theorem dX3_typeAt_7 : decode cX3_typeAt 7 = .ok (.iand, 1) := by decide +kernel
theorem dX3_typeAt_8 : decode cX3_typeAt 8 = .ok (.ireturn, 1) := by decide +kernel
noncomputable def fX3_typeAt  (v0 : Int32) (v1 : Int32) : Int32 := ((iushr v0 (4 * v1)) &&& 15)
set_option maxHeartbeats 4000000 in
set_option maxRecDepth 100000 in
theorem ctX3_typeAt (l : Launch) (g : GT) (v0 : Int32) (v1 : Int32) (o : Int32) (h : fX3_typeAt v0 v1 = o) : Met l yX3_typeAt (Cond.code yX3_typeAt cX3_typeAt 2 (some .int) :: Tw) ⟨0, 0, 0, 0⟩ (va_Pc [.int v0, .int v1] (roB g [])) (vp_Si (fun x => x = o)) 0 0 (fun _ => False) := by
  refine ro_meti (by decide) (Nat.le_of_ble_eq_true rfl) (lv0 := [(0, .int v0), (1, .int v1)]) rfl ?_
  intro p e s m args below meth c ls Q cx hret hG hP hl
  have hx := cx.1
  have hb := cx.2.1
  have hG0 := hG
  unfold fX3_typeAt at h
  refine lv_iload_n hx hb dX3_typeAt_0 rfl (lv_at hl 0 rfl) ?_
  refine lv_iconst (v := 4) hx hb dX3_typeAt_1 (by decide) ?_
  refine lv_iload_n hx hb dX3_typeAt_2 rfl (lv_at hl 1 rfl) ?_
  refine lv_imul hx hb dX3_typeAt_3 ?_
  refine lv_iushr (v := iushr v0 (4 * v1)) hx hb dX3_typeAt_4 rfl ?_
  refine lv_bipush (v := 15) hx hb dX3_typeAt_5 (by decide) ?_
  refine lv_iand hx hb dX3_typeAt_7 ?_
  exact hret _ _ _ dX3_typeAt_8 h
-- X3_angleAt
theorem dX3_angleAt_0 : decode cX3_angleAt 0 = .ok (.iload_n 0, 1) := by decide +kernel
theorem dX3_angleAt_1 : decode cX3_angleAt 1 = .ok (.iconst 4, 1) := by decide +kernel
theorem dX3_angleAt_2 : decode cX3_angleAt 2 = .ok (.iload_n 1, 1) := by decide +kernel
theorem dX3_angleAt_3 : decode cX3_angleAt 3 = .ok (.imul, 1) := by decide +kernel
theorem dX3_angleAt_4 : decode cX3_angleAt 4 = .ok (.iushr, 1) := by decide +kernel
theorem dX3_angleAt_5 : decode cX3_angleAt 5 = .ok (.iconst 3, 1) := by decide +kernel
theorem dX3_angleAt_6 : decode cX3_angleAt 6 = .ok (.iand, 1) := by decide +kernel
theorem dX3_angleAt_7 : decode cX3_angleAt 7 = .ok (.ireturn, 1) := by decide +kernel
noncomputable def fX3_angleAt  (v0 : Int32) (v1 : Int32) : Int32 := ((iushr v0 (4 * v1)) &&& 3)
set_option maxHeartbeats 4000000 in
set_option maxRecDepth 100000 in
theorem ctX3_angleAt (l : Launch) (g : GT) (v0 : Int32) (v1 : Int32) (o : Int32) (h : fX3_angleAt v0 v1 = o) : Met l yX3_angleAt (Cond.code yX3_angleAt cX3_angleAt 2 (some .int) :: Tw) ⟨0, 0, 0, 0⟩ (va_Pc [.int v0, .int v1] (roB g [])) (vp_Si (fun x => x = o)) 0 0 (fun _ => False) := by
  refine ro_meti (by decide) (Nat.le_of_ble_eq_true rfl) (lv0 := [(0, .int v0), (1, .int v1)]) rfl ?_
  intro p e s m args below meth c ls Q cx hret hG hP hl
  have hx := cx.1
  have hb := cx.2.1
  have hG0 := hG
  unfold fX3_angleAt at h
  refine lv_iload_n hx hb dX3_angleAt_0 rfl (lv_at hl 0 rfl) ?_
  refine lv_iconst (v := 4) hx hb dX3_angleAt_1 (by decide) ?_
  refine lv_iload_n hx hb dX3_angleAt_2 rfl (lv_at hl 1 rfl) ?_
  refine lv_imul hx hb dX3_angleAt_3 ?_
  refine lv_iushr (v := iushr v0 (4 * v1)) hx hb dX3_angleAt_4 rfl ?_
  refine lv_iconst (v := 3) hx hb dX3_angleAt_5 (by decide) ?_
  refine lv_iand hx hb dX3_angleAt_6 ?_
  exact hret _ _ _ dX3_angleAt_7 h
-- X3_with
theorem dX3_with_0 : decode cX3_with 0 = .ok (.iload_n 0, 1) := by decide +kernel
theorem dX3_with_1 : decode cX3_with 1 = .ok (.bipush 15, 2) := by decide +kernel
theorem dX3_with_3 : decode cX3_with 3 = .ok (.iconst 4, 1) := by decide +kernel
theorem dX3_with_4 : decode cX3_with 4 = .ok (.iload_n 1, 1) := by decide +kernel
theorem dX3_with_5 : decode cX3_with 5 = .ok (.imul, 1) := by decide +kernel
theorem dX3_with_6 : decode cX3_with 6 = .ok (.ishl, 1) := by decide +kernel
theorem dX3_with_7 : decode cX3_with 7 = .ok (.iconst (-1), 1) := by decide +kernel
theorem dX3_with_8 : decode cX3_with 8 = .ok (.ixor, 1) := by decide +kernel
theorem dX3_with_9 : decode cX3_with 9 = .ok (.iand, 1) := by decide +kernel
theorem dX3_with_10 : decode cX3_with 10 = .ok (.iload_n 2, 1) := by decide +kernel
theorem dX3_with_11 : decode cX3_with 11 = .ok (.iconst 4, 1) := by decide +kernel
theorem dX3_with_12 : decode cX3_with 12 = .ok (.iload_n 1, 1) := by decide +kernel
theorem dX3_with_13 : decode cX3_with 13 = .ok (.imul, 1) := by decide +kernel
theorem dX3_with_14 : decode cX3_with 14 = .ok (.ishl, 1) := by decide +kernel
theorem dX3_with_15 : decode cX3_with 15 = .ok (.ior, 1) := by decide +kernel
theorem dX3_with_16 : decode cX3_with 16 = .ok (.ireturn, 1) := by decide +kernel
noncomputable def fX3_with  (v0 : Int32) (v1 : Int32) (v2 : Int32) : Int32 := ((v0 &&& ((15 <<< ((4 * v1) &&& 31)) ^^^ (-1))) ||| (v2 <<< ((4 * v1) &&& 31)))
set_option maxHeartbeats 4000000 in
set_option maxRecDepth 100000 in
theorem ctX3_with (l : Launch) (g : GT) (v0 : Int32) (v1 : Int32) (v2 : Int32) (o : Int32) (h : fX3_with v0 v1 v2 = o) : Met l yX3_with (Cond.code yX3_with cX3_with 3 (some .int) :: Tw) ⟨0, 0, 0, 0⟩ (va_Pc [.int v0, .int v1, .int v2] (roB g [])) (vp_Si (fun x => x = o)) 0 0 (fun _ => False) := by
  refine ro_meti (by decide) (Nat.le_of_ble_eq_true rfl) (lv0 := [(0, .int v0), (1, .int v1), (2, .int v2)]) rfl ?_
  intro p e s m args below meth c ls Q cx hret hG hP hl
  have hx := cx.1
  have hb := cx.2.1
  have hG0 := hG
  unfold fX3_with at h
  refine lv_iload_n hx hb dX3_with_0 rfl (lv_at hl 0 rfl) ?_
  refine lv_bipush (v := 15) hx hb dX3_with_1 (by decide) ?_
  refine lv_iconst (v := 4) hx hb dX3_with_3 (by decide) ?_
  refine lv_iload_n hx hb dX3_with_4 rfl (lv_at hl 1 rfl) ?_
  refine lv_imul hx hb dX3_with_5 ?_
  refine lv_ishl hx hb dX3_with_6 ?_
  refine lv_iconst (v := -1) hx hb dX3_with_7 (by decide) ?_
  refine lv_ixor hx hb dX3_with_8 ?_
  refine lv_iand hx hb dX3_with_9 ?_
  refine lv_iload_n hx hb dX3_with_10 rfl (lv_at hl 2 rfl) ?_
  refine lv_iconst (v := 4) hx hb dX3_with_11 (by decide) ?_
  refine lv_iload_n hx hb dX3_with_12 rfl (lv_at hl 1 rfl) ?_
  refine lv_imul hx hb dX3_with_13 ?_
  refine lv_ishl hx hb dX3_with_14 ?_
  refine lv_ior hx hb dX3_with_15 ?_
  exact hret _ _ _ dX3_with_16 h
-- X3_farOf
theorem dX3_farOf_0 : decode cX3_farOf 0 = .ok (.iconst 2, 1) := by decide +kernel
theorem dX3_farOf_1 : decode cX3_farOf 1 = .ok (.iload_n 0, 1) := by decide +kernel
theorem dX3_farOf_2 : decode cX3_farOf 2 = .ok (.imul, 1) := by decide +kernel
theorem dX3_farOf_3 : decode cX3_farOf 3 = .ok (.iconst 1, 1) := by decide +kernel
theorem dX3_farOf_4 : decode cX3_farOf 4 = .ok (.iadd, 1) := by decide +kernel
theorem dX3_farOf_5 : decode cX3_farOf 5 = .ok (.iload_n 1, 1) := by decide +kernel
theorem dX3_farOf_6 : decode cX3_farOf 6 = .ok (.isub, 1) := by decide +kernel
theorem dX3_farOf_7 : decode cX3_farOf 7 = .ok (.ireturn, 1) := by decide +kernel
noncomputable def fX3_farOf  (v0 : Int32) (v1 : Int32) : Int32 := (((2 * v0) + 1) - v1)
set_option maxHeartbeats 4000000 in
set_option maxRecDepth 100000 in
theorem ctX3_farOf (l : Launch) (g : GT) (v0 : Int32) (v1 : Int32) (o : Int32) (h : fX3_farOf v0 v1 = o) : Met l yX3_farOf (Cond.code yX3_farOf cX3_farOf 2 (some .int) :: Tw) ⟨0, 0, 0, 0⟩ (va_Pc [.int v0, .int v1] (roB g [])) (vp_Si (fun x => x = o)) 0 0 (fun _ => False) := by
  refine ro_meti (by decide) (Nat.le_of_ble_eq_true rfl) (lv0 := [(0, .int v0), (1, .int v1)]) rfl ?_
  intro p e s m args below meth c ls Q cx hret hG hP hl
  have hx := cx.1
  have hb := cx.2.1
  have hG0 := hG
  unfold fX3_farOf at h
  refine lv_iconst (v := 2) hx hb dX3_farOf_0 (by decide) ?_
  refine lv_iload_n hx hb dX3_farOf_1 rfl (lv_at hl 0 rfl) ?_
  refine lv_imul hx hb dX3_farOf_2 ?_
  refine lv_iconst (v := 1) hx hb dX3_farOf_3 (by decide) ?_
  refine lv_iadd hx hb dX3_farOf_4 ?_
  refine lv_iload_n hx hb dX3_farOf_5 rfl (lv_at hl 1 rfl) ?_
  refine lv_isub hx hb dX3_farOf_6 ?_
  exact hret _ _ _ dX3_farOf_7 h
-- X3_thickOf
theorem dX3_thickOf_0 : decode cX3_thickOf 0 = .ok (.iconst 3, 1) := by decide +kernel
theorem dX3_thickOf_1 : decode cX3_thickOf 1 = .ok (.iload_n 0, 1) := by decide +kernel
theorem dX3_thickOf_2 : decode cX3_thickOf 2 = .ok (.imul, 1) := by decide +kernel
theorem dX3_thickOf_3 : decode cX3_thickOf 3 = .ok (.iload_n 0, 1) := by decide +kernel
theorem dX3_thickOf_4 : decode cX3_thickOf 4 = .ok (.imul, 1) := by decide +kernel
theorem dX3_thickOf_5 : decode cX3_thickOf 5 = .ok (.iconst 1, 1) := by decide +kernel
theorem dX3_thickOf_6 : decode cX3_thickOf 6 = .ok (.iadd, 1) := by decide +kernel
theorem dX3_thickOf_7 : decode cX3_thickOf 7 = .ok (.ireturn, 1) := by decide +kernel
noncomputable def fX3_thickOf  (v0 : Int32) : Int32 := (((3 * v0) * v0) + 1)
set_option maxHeartbeats 4000000 in
set_option maxRecDepth 100000 in
theorem ctX3_thickOf (l : Launch) (g : GT) (v0 : Int32) (o : Int32) (h : fX3_thickOf v0 = o) : Met l yX3_thickOf (Cond.code yX3_thickOf cX3_thickOf 1 (some .int) :: Tw) ⟨0, 0, 0, 0⟩ (va_Pc [.int v0] (roB g [])) (vp_Si (fun x => x = o)) 0 0 (fun _ => False) := by
  refine ro_meti (by decide) (Nat.le_of_ble_eq_true rfl) (lv0 := [(0, .int v0)]) rfl ?_
  intro p e s m args below meth c ls Q cx hret hG hP hl
  have hx := cx.1
  have hb := cx.2.1
  have hG0 := hG
  unfold fX3_thickOf at h
  refine lv_iconst (v := 3) hx hb dX3_thickOf_0 (by decide) ?_
  refine lv_iload_n hx hb dX3_thickOf_1 rfl (lv_at hl 0 rfl) ?_
  refine lv_imul hx hb dX3_thickOf_2 ?_
  refine lv_iload_n hx hb dX3_thickOf_3 rfl (lv_at hl 0 rfl) ?_
  refine lv_imul hx hb dX3_thickOf_4 ?_
  refine lv_iconst (v := 1) hx hb dX3_thickOf_5 (by decide) ?_
  refine lv_iadd hx hb dX3_thickOf_6 ?_
  exact hret _ _ _ dX3_thickOf_7 h
-- X3_howMany
theorem dX3_howMany_0 : decode cX3_howMany 0 = .ok (.iconst 0, 1) := by decide +kernel
theorem dX3_howMany_1 : decode cX3_howMany 1 = .ok (.istore_n 3, 1) := by decide +kernel
theorem dX3_howMany_2 : decode cX3_howMany 2 = .ok (.iconst 0, 1) := by decide +kernel
theorem dX3_howMany_3 : decode cX3_howMany 3 = .ok (.istore 4, 2) := by decide +kernel
theorem dX3_howMany_5 : decode cX3_howMany 5 = .ok (.iload 4, 2) := by decide +kernel
theorem dX3_howMany_7 : decode cX3_howMany 7 = .ok (.iload_n 1, 1) := by decide +kernel
theorem dX3_howMany_8 : decode cX3_howMany 8 = .ok (.if_icmp .ge 22, 3) := by decide +kernel
theorem dX3_howMany_11 : decode cX3_howMany 11 = .ok (.iload_n 0, 1) := by decide +kernel
theorem dX3_howMany_12 : decode cX3_howMany 12 = .ok (.iload 4, 2) := by decide +kernel
theorem dX3_howMany_14 : decode cX3_howMany 14 = .ok (.invokestatic 9, 3) := by decide +kernel
theorem dX3_howMany_17 : decode cX3_howMany 17 = .ok (.iload_n 2, 1) := by decide +kernel
theorem dX3_howMany_18 : decode cX3_howMany 18 = .ok (.if_icmp .ne 6, 3) := by decide +kernel
theorem dX3_howMany_21 : decode cX3_howMany 21 = .ok (.iinc 3 1, 3) := by decide +kernel
theorem dX3_howMany_24 : decode cX3_howMany 24 = .ok (.iinc 4 1, 3) := by decide +kernel
theorem dX3_howMany_27 : decode cX3_howMany 27 = .ok (.goto (-22), 3) := by decide +kernel
theorem dX3_howMany_30 : decode cX3_howMany 30 = .ok (.iload_n 3, 1) := by decide +kernel
theorem dX3_howMany_31 : decode cX3_howMany 31 = .ok (.ireturn, 1) := by decide +kernel
noncomputable def fX3_howMany_24 (k5 : Int32 → Int32 → Int32 → Int32 → Int32 → Option (Int32)) (v0 : Int32) (v1 : Int32) (v2 : Int32) (v3 : Int32) (v4 : Int32) : Option (Int32) := k5 v0 v1 v2 v3 (v4 + 1)
noncomputable def fX3_howMany_5  : Nat → Int32 → Int32 → Int32 → Int32 → Int32 → Option (Int32)
  | 0, _, _, _, _, _ => none
  | n + 1, v0, v1, v2, v3, v4 => (if v1 ≤ v4 then some v3 else (if (fX3_typeAt v0 v4) = v2 then fX3_howMany_24 (fX3_howMany_5 n) v0 v1 v2 (v3 + 1) v4 else fX3_howMany_24 (fX3_howMany_5 n) v0 v1 v2 v3 v4))
theorem fX3_howMany_5_z  (v0 : Int32) (v1 : Int32) (v2 : Int32) (v3 : Int32) (v4 : Int32) : fX3_howMany_5  0 v0 v1 v2 v3 v4 = none := rfl
theorem fX3_howMany_5_s  (n : Nat) (v0 : Int32) (v1 : Int32) (v2 : Int32) (v3 : Int32) (v4 : Int32) : fX3_howMany_5  (n + 1) v0 v1 v2 v3 v4 = (if v1 ≤ v4 then some v3 else (if (fX3_typeAt v0 v4) = v2 then fX3_howMany_24 (fX3_howMany_5 n) v0 v1 v2 (v3 + 1) v4 else fX3_howMany_24 (fX3_howMany_5 n) v0 v1 v2 v3 v4)) := rfl
noncomputable def fX3_howMany  (v0 : Int32) (v1 : Int32) (v2 : Int32) : Option (Int32) := fX3_howMany_5 FU v0 v1 v2 0 0
set_option maxHeartbeats 4000000 in
set_option maxRecDepth 100000 in
theorem ctX3_howMany (l : Launch) (g : GT) (v0 : Int32) (v1 : Int32) (v2 : Int32) (o : Int32) (h : fX3_howMany v0 v1 v2 = some o) : Met l yX3_howMany (Cond.code yX3_howMany cX3_howMany 5 (some .int) :: Tw) ⟨1, 0, 0, 21⟩ (va_Pc [.int v0, .int v1, .int v2] (roB g [])) (vp_Si (fun x => x = o)) 0 0 (fun _ => False) := by
  refine ro_meti (by decide) (Nat.le_of_ble_eq_true rfl) (lv0 := [(0, .int v0), (1, .int v1), (2, .int v2)]) rfl ?_
  intro p e s m args below meth c ls Q cx hret hG hP hl
  have hx := cx.1
  have hb := cx.2.1
  have hG0 := hG
  have w24 : ∀ (k5 : Int32 → Int32 → Int32 → Int32 → Int32 → Option (Int32)) (hk5 : ∀ (v0 : Int32) (v1 : Int32) (v2 : Int32) (v3 : Int32) (v4 : Int32) (ls : Array Slot), lv_has ls 5 [(0, .int v0), (1, .int v1), (2, .int v2), (3, .int v3), (4, .int v4)] → k5 v0 v1 v2 v3 v4 = some o → W p l e ⟨1, 0, 0, 21⟩ s m args below meth c s.heap [] 0 0 Q (F0 m 5 ls [])) (v0 : Int32) (v1 : Int32) (v2 : Int32) (v3 : Int32) (v4 : Int32) (ls : Array Slot), lv_has ls 5 [(0, .int v0), (1, .int v1), (2, .int v2), (3, .int v3), (4, .int v4)] → fX3_howMany_24 k5 v0 v1 v2 v3 v4 = some o → W p l e ⟨1, 0, 0, 21⟩ s m args below meth c s.heap [] 0 0 Q (F0 m 24 ls []) := by
    intro k5 hk5 v0 v1 v2 v3 v4 ls hl h
    unfold fX3_howMany_24 at h
    refine lv_iinc (v := v4 + 1) (lv' := [(4, .int (v4 + 1)), (0, .int v0), (1, .int v1), (2, .int v2), (3, .int v3)]) hx hb dX3_howMany_24 hl (k := 4) rfl rfl (by decide) rfl (fun ls hl => ?_)
    refine lv_goto (tgt := 5) hx hb dX3_howMany_27 (by decide) ?_
    exact hk5 v0 v1 v2 v3 (v4 + 1) _ (lv_sub hl [1, 2, 3, 4, 0] rfl) h
  have w5 : ∀ (n : Nat) (v0 : Int32) (v1 : Int32) (v2 : Int32) (v3 : Int32) (v4 : Int32) (ls : Array Slot), lv_has ls 5 [(0, .int v0), (1, .int v1), (2, .int v2), (3, .int v3), (4, .int v4)] → fX3_howMany_5  n v0 v1 v2 v3 v4 = some o → W p l e ⟨1, 0, 0, 21⟩ s m args below meth c s.heap [] 0 0 Q (F0 m 5 ls []) := by
    intro n
    induction n with
    | zero => intro v0 v1 v2 v3 v4 ls hl h; cases (fX3_howMany_5_z  v0 v1 v2 v3 v4).symm.trans h
    | succ n ih =>
    intro v0 v1 v2 v3 v4 ls hl h
    have h := (fX3_howMany_5_s  n v0 v1 v2 v3 v4).symm.trans h
    refine lv_iload hx hb dX3_howMany_5 (lv_at hl 4 rfl) ?_
    refine lv_iload_n hx hb dX3_howMany_7 rfl (lv_at hl 1 rfl) ?_
    refine lv_icmp_ge (tgt := 30) hx hb dX3_howMany_8 (by decide) (fun c1 => ?_) (fun c1 => ?_)
    · have h := itp c1 h
      refine lv_iload_n hx hb dX3_howMany_30 rfl (lv_at hl 3 rfl) ?_
      exact hret _ _ _ dX3_howMany_31 (Option.some.inj h)
    · have h := itn c1 h
      refine lv_iload_n hx hb dX3_howMany_11 rfl (lv_at hl 0 rfl) ?_
      refine lv_iload hx hb dX3_howMany_12 (lv_at hl 4 rfl) ?_
      refine ro_i (runS (As := [.int v0, .int v4]) (rest := []) cx hl.1 (ctX3_typeAt l g v0 v4 (fX3_typeAt v0 v4) rfl) kmX3_typeAt ksX3_typeAt lm_X3_9 ⟨rfl, rfl⟩ ⟨Nat.le_of_ble_eq_true rfl, Nat.le_of_ble_eq_true rfl⟩ (roS hG (hP.sub [] rfl)) rfl rfl (Nat.le_of_ble_eq_true rfl) dX3_howMany_14 ⟨Nat.le_of_ble_eq_true rfl, Nat.le_of_ble_eq_true rfl⟩) ?_
      refine lv_iload_n hx hb dX3_howMany_17 rfl (lv_at hl 2 rfl) ?_
      refine lv_icmp_ne (tgt := 24) hx hb dX3_howMany_18 (by decide) (fun c2 => ?_) (fun c2 => ?_)
      · have h := itn c2 h
        exact w24 _ ih v0 v1 v2 v3 v4 _ (lv_sub hl [0, 1, 2, 3, 4] rfl) h
      · have h := itp c2 h
        refine lv_iinc (v := v3 + 1) (lv' := [(3, .int (v3 + 1)), (0, .int v0), (1, .int v1), (2, .int v2), (4, .int v4)]) hx hb dX3_howMany_21 hl (k := 3) rfl rfl (by decide) rfl (fun ls hl => ?_)
        exact w24 _ ih v0 v1 v2 (v3 + 1) v4 _ (lv_sub hl [1, 2, 3, 0, 4] rfl) h
  unfold fX3_howMany at h
  refine lv_iconst (v := 0) hx hb dX3_howMany_0 (by decide) ?_
  refine lv_istore_n (lv' := [(3, .int (0)), (0, .int v0), (1, .int v1), (2, .int v2)]) hx hb dX3_howMany_1 rfl hl (by decide) rfl (fun ls hl => ?_)
  refine lv_iconst (v := 0) hx hb dX3_howMany_2 (by decide) ?_
  refine lv_istore (lv' := [(4, .int (0)), (3, .int (0)), (0, .int v0), (1, .int v1), (2, .int v2)]) hx hb dX3_howMany_3 hl (by decide) rfl (fun ls hl => ?_)
  exact w5 FU v0 v1 v2 0 0 _ (lv_sub hl [2, 3, 4, 1, 0] rfl) h
-- X3_sorted
theorem dX3_sorted_0 : decode cX3_sorted 0 = .ok (.iconst 0, 1) := by decide +kernel
theorem dX3_sorted_1 : decode cX3_sorted 1 = .ok (.istore_n 2, 1) := by decide +kernel
theorem dX3_sorted_2 : decode cX3_sorted 2 = .ok (.iconst 0, 1) := by decide +kernel
theorem dX3_sorted_3 : decode cX3_sorted 3 = .ok (.istore_n 3, 1) := by decide +kernel
theorem dX3_sorted_4 : decode cX3_sorted 4 = .ok (.iconst 0, 1) := by decide +kernel
theorem dX3_sorted_5 : decode cX3_sorted 5 = .ok (.istore 4, 2) := by decide +kernel
theorem dX3_sorted_7 : decode cX3_sorted 7 = .ok (.iload 4, 2) := by decide +kernel
theorem dX3_sorted_9 : decode cX3_sorted 9 = .ok (.bipush 16, 2) := by decide +kernel
theorem dX3_sorted_11 : decode cX3_sorted 11 = .ok (.if_icmp .ge 47, 3) := by decide +kernel
theorem dX3_sorted_14 : decode cX3_sorted 14 = .ok (.iconst 0, 1) := by decide +kernel
theorem dX3_sorted_15 : decode cX3_sorted 15 = .ok (.istore 5, 2) := by decide +kernel
theorem dX3_sorted_17 : decode cX3_sorted 17 = .ok (.iload 5, 2) := by decide +kernel
theorem dX3_sorted_19 : decode cX3_sorted 19 = .ok (.iload_n 1, 1) := by decide +kernel
theorem dX3_sorted_20 : decode cX3_sorted 20 = .ok (.if_icmp .ge 32, 3) := by decide +kernel
theorem dX3_sorted_23 : decode cX3_sorted 23 = .ok (.iload_n 0, 1) := by decide +kernel
theorem dX3_sorted_24 : decode cX3_sorted 24 = .ok (.iload 5, 2) := by decide +kernel
theorem dX3_sorted_26 : decode cX3_sorted 26 = .ok (.invokestatic 9, 3) := by decide +kernel
theorem dX3_sorted_29 : decode cX3_sorted 29 = .ok (.iload 4, 2) := by decide +kernel
theorem dX3_sorted_31 : decode cX3_sorted 31 = .ok (.if_icmp .ne 15, 3) := by decide +kernel
theorem dX3_sorted_34 : decode cX3_sorted 34 = .ok (.iload_n 2, 1) := by decide +kernel
theorem dX3_sorted_35 : decode cX3_sorted 35 = .ok (.iload 4, 2) := by decide +kernel
theorem dX3_sorted_37 : decode cX3_sorted 37 = .ok (.iconst 4, 1) := by decide +kernel
theorem dX3_sorted_38 : decode cX3_sorted 38 = .ok (.iload_n 3, 1) := by decide +kernel
theorem dX3_sorted_39 : decode cX3_sorted 39 = .ok (.imul, 1) := by decide +kernel
theorem dX3_sorted_40 : decode cX3_sorted 40 = .ok (.ishl, 1) := by decide +kernel
theorem dX3_sorted_41 : decode cX3_sorted 41 = .ok (.ior, 1) := by decide +kernel
theorem dX3_sorted_42 : decode cX3_sorted 42 = .ok (.istore_n 2, 1) := by decide +kernel
theorem dX3_sorted_43 : decode cX3_sorted 43 = .ok (.iinc 3 1, 3) := by decide +kernel
theorem dX3_sorted_46 : decode cX3_sorted 46 = .ok (.iinc 5 1, 3) := by decide +kernel
theorem dX3_sorted_49 : decode cX3_sorted 49 = .ok (.goto (-32), 3) := by decide +kernel
theorem dX3_sorted_52 : decode cX3_sorted 52 = .ok (.iinc 4 1, 3) := by decide +kernel
theorem dX3_sorted_55 : decode cX3_sorted 55 = .ok (.goto (-48), 3) := by decide +kernel
theorem dX3_sorted_58 : decode cX3_sorted 58 = .ok (.iload_n 2, 1) := by decide +kernel
theorem dX3_sorted_59 : decode cX3_sorted 59 = .ok (.ireturn, 1) := by decide +kernel
noncomputable def fX3_sorted_46 (k7 : Int32 → Int32 → Int32 → Int32 → Int32 → Option (Int32)) (k17 : Int32 → Int32 → Int32 → Int32 → Int32 → Int32 → Option (Int32)) (v0 : Int32) (v1 : Int32) (v2 : Int32) (v3 : Int32) (v4 : Int32) (v5 : Int32) : Option (Int32) := k17 v0 v1 v2 v3 v4 (v5 + 1)
noncomputable def fX3_sorted_52 (k7 : Int32 → Int32 → Int32 → Int32 → Int32 → Option (Int32)) (v0 : Int32) (v1 : Int32) (v2 : Int32) (v3 : Int32) (v4 : Int32) : Option (Int32) := k7 v0 v1 v2 v3 (v4 + 1)
noncomputable def fX3_sorted_17 (k7 : Int32 → Int32 → Int32 → Int32 → Int32 → Option (Int32)) : Nat → Int32 → Int32 → Int32 → Int32 → Int32 → Int32 → Option (Int32)
  | 0, _, _, _, _, _, _ => none
  | n + 1, v0, v1, v2, v3, v4, v5 => (if v1 ≤ v5 then fX3_sorted_52 k7 v0 v1 v2 v3 v4 else (if (fX3_typeAt v0 v5) = v4 then fX3_sorted_46 k7 (fX3_sorted_17 k7 n) v0 v1 (v2 ||| (v4 <<< ((4 * v3) &&& 31))) (v3 + 1) v4 v5 else fX3_sorted_46 k7 (fX3_sorted_17 k7 n) v0 v1 v2 v3 v4 v5))
theorem fX3_sorted_17_z (k7 : Int32 → Int32 → Int32 → Int32 → Int32 → Option (Int32)) (v0 : Int32) (v1 : Int32) (v2 : Int32) (v3 : Int32) (v4 : Int32) (v5 : Int32) : fX3_sorted_17 k7 0 v0 v1 v2 v3 v4 v5 = none := rfl
theorem fX3_sorted_17_s (k7 : Int32 → Int32 → Int32 → Int32 → Int32 → Option (Int32)) (n : Nat) (v0 : Int32) (v1 : Int32) (v2 : Int32) (v3 : Int32) (v4 : Int32) (v5 : Int32) : fX3_sorted_17 k7 (n + 1) v0 v1 v2 v3 v4 v5 = (if v1 ≤ v5 then fX3_sorted_52 k7 v0 v1 v2 v3 v4 else (if (fX3_typeAt v0 v5) = v4 then fX3_sorted_46 k7 (fX3_sorted_17 k7 n) v0 v1 (v2 ||| (v4 <<< ((4 * v3) &&& 31))) (v3 + 1) v4 v5 else fX3_sorted_46 k7 (fX3_sorted_17 k7 n) v0 v1 v2 v3 v4 v5)) := rfl
noncomputable def fX3_sorted_7  : Nat → Int32 → Int32 → Int32 → Int32 → Int32 → Option (Int32)
  | 0, _, _, _, _, _ => none
  | n + 1, v0, v1, v2, v3, v4 => (if 16 ≤ v4 then some v2 else fX3_sorted_17 (fX3_sorted_7 n) FU v0 v1 v2 v3 v4 0)
theorem fX3_sorted_7_z  (v0 : Int32) (v1 : Int32) (v2 : Int32) (v3 : Int32) (v4 : Int32) : fX3_sorted_7  0 v0 v1 v2 v3 v4 = none := rfl
theorem fX3_sorted_7_s  (n : Nat) (v0 : Int32) (v1 : Int32) (v2 : Int32) (v3 : Int32) (v4 : Int32) : fX3_sorted_7  (n + 1) v0 v1 v2 v3 v4 = (if 16 ≤ v4 then some v2 else fX3_sorted_17 (fX3_sorted_7 n) FU v0 v1 v2 v3 v4 0) := rfl
noncomputable def fX3_sorted  (v0 : Int32) (v1 : Int32) : Option (Int32) := fX3_sorted_7 FU v0 v1 0 0 0
set_option maxHeartbeats 4000000 in
set_option maxRecDepth 100000 in
theorem ctX3_sorted (l : Launch) (g : GT) (v0 : Int32) (v1 : Int32) (o : Int32) (h : fX3_sorted v0 v1 = some o) : Met l yX3_sorted (Cond.code yX3_sorted cX3_sorted 6 (some .int) :: Tw) ⟨1, 0, 0, 21⟩ (va_Pc [.int v0, .int v1] (roB g [])) (vp_Si (fun x => x = o)) 0 0 (fun _ => False) := by
  refine ro_meti (by decide) (Nat.le_of_ble_eq_true rfl) (lv0 := [(0, .int v0), (1, .int v1)]) rfl ?_
  intro p e s m args below meth c ls Q cx hret hG hP hl
  have hx := cx.1
  have hb := cx.2.1
  have hG0 := hG
  have w46 : ∀ (k7 : Int32 → Int32 → Int32 → Int32 → Int32 → Option (Int32)) (hk7 : ∀ (v0 : Int32) (v1 : Int32) (v2 : Int32) (v3 : Int32) (v4 : Int32) (ls : Array Slot), lv_has ls 6 [(0, .int v0), (1, .int v1), (2, .int v2), (3, .int v3), (4, .int v4)] → k7 v0 v1 v2 v3 v4 = some o → W p l e ⟨1, 0, 0, 21⟩ s m args below meth c s.heap [] 0 0 Q (F0 m 7 ls [])) (k17 : Int32 → Int32 → Int32 → Int32 → Int32 → Int32 → Option (Int32)) (hk17 : ∀ (v0 : Int32) (v1 : Int32) (v2 : Int32) (v3 : Int32) (v4 : Int32) (v5 : Int32) (ls : Array Slot), lv_has ls 6 [(0, .int v0), (1, .int v1), (2, .int v2), (3, .int v3), (4, .int v4), (5, .int v5)] → k17 v0 v1 v2 v3 v4 v5 = some o → W p l e ⟨1, 0, 0, 21⟩ s m args below meth c s.heap [] 0 0 Q (F0 m 17 ls [])) (v0 : Int32) (v1 : Int32) (v2 : Int32) (v3 : Int32) (v4 : Int32) (v5 : Int32) (ls : Array Slot), lv_has ls 6 [(0, .int v0), (1, .int v1), (2, .int v2), (3, .int v3), (4, .int v4), (5, .int v5)] → fX3_sorted_46 k7 k17 v0 v1 v2 v3 v4 v5 = some o → W p l e ⟨1, 0, 0, 21⟩ s m args below meth c s.heap [] 0 0 Q (F0 m 46 ls []) := by
    intro k7 hk7 k17 hk17 v0 v1 v2 v3 v4 v5 ls hl h
    unfold fX3_sorted_46 at h
    refine lv_iinc (v := v5 + 1) (lv' := [(5, .int (v5 + 1)), (0, .int v0), (1, .int v1), (2, .int v2), (3, .int v3), (4, .int v4)]) hx hb dX3_sorted_46 hl (k := 5) rfl rfl (by decide) rfl (fun ls hl => ?_)
    refine lv_goto (tgt := 17) hx hb dX3_sorted_49 (by decide) ?_
    exact hk17 v0 v1 v2 v3 v4 (v5 + 1) _ (lv_sub hl [1, 2, 3, 4, 5, 0] rfl) h
  have w52 : ∀ (k7 : Int32 → Int32 → Int32 → Int32 → Int32 → Option (Int32)) (hk7 : ∀ (v0 : Int32) (v1 : Int32) (v2 : Int32) (v3 : Int32) (v4 : Int32) (ls : Array Slot), lv_has ls 6 [(0, .int v0), (1, .int v1), (2, .int v2), (3, .int v3), (4, .int v4)] → k7 v0 v1 v2 v3 v4 = some o → W p l e ⟨1, 0, 0, 21⟩ s m args below meth c s.heap [] 0 0 Q (F0 m 7 ls [])) (v0 : Int32) (v1 : Int32) (v2 : Int32) (v3 : Int32) (v4 : Int32) (ls : Array Slot), lv_has ls 6 [(0, .int v0), (1, .int v1), (2, .int v2), (3, .int v3), (4, .int v4)] → fX3_sorted_52 k7 v0 v1 v2 v3 v4 = some o → W p l e ⟨1, 0, 0, 21⟩ s m args below meth c s.heap [] 0 0 Q (F0 m 52 ls []) := by
    intro k7 hk7 v0 v1 v2 v3 v4 ls hl h
    unfold fX3_sorted_52 at h
    refine lv_iinc (v := v4 + 1) (lv' := [(4, .int (v4 + 1)), (0, .int v0), (1, .int v1), (2, .int v2), (3, .int v3)]) hx hb dX3_sorted_52 hl (k := 4) rfl rfl (by decide) rfl (fun ls hl => ?_)
    refine lv_goto (tgt := 7) hx hb dX3_sorted_55 (by decide) ?_
    exact hk7 v0 v1 v2 v3 (v4 + 1) _ (lv_sub hl [1, 2, 3, 4, 0] rfl) h
  have w17 : ∀ (k7 : Int32 → Int32 → Int32 → Int32 → Int32 → Option (Int32)) (hk7 : ∀ (v0 : Int32) (v1 : Int32) (v2 : Int32) (v3 : Int32) (v4 : Int32) (ls : Array Slot), lv_has ls 6 [(0, .int v0), (1, .int v1), (2, .int v2), (3, .int v3), (4, .int v4)] → k7 v0 v1 v2 v3 v4 = some o → W p l e ⟨1, 0, 0, 21⟩ s m args below meth c s.heap [] 0 0 Q (F0 m 7 ls [])) (n : Nat) (v0 : Int32) (v1 : Int32) (v2 : Int32) (v3 : Int32) (v4 : Int32) (v5 : Int32) (ls : Array Slot), lv_has ls 6 [(0, .int v0), (1, .int v1), (2, .int v2), (3, .int v3), (4, .int v4), (5, .int v5)] → fX3_sorted_17 k7 n v0 v1 v2 v3 v4 v5 = some o → W p l e ⟨1, 0, 0, 21⟩ s m args below meth c s.heap [] 0 0 Q (F0 m 17 ls []) := by
    intro k7 hk7 n
    induction n with
    | zero => intro v0 v1 v2 v3 v4 v5 ls hl h; cases (fX3_sorted_17_z k7 v0 v1 v2 v3 v4 v5).symm.trans h
    | succ n ih =>
    intro v0 v1 v2 v3 v4 v5 ls hl h
    have h := (fX3_sorted_17_s k7 n v0 v1 v2 v3 v4 v5).symm.trans h
    refine lv_iload hx hb dX3_sorted_17 (lv_at hl 5 rfl) ?_
    refine lv_iload_n hx hb dX3_sorted_19 rfl (lv_at hl 1 rfl) ?_
    refine lv_icmp_ge (tgt := 52) hx hb dX3_sorted_20 (by decide) (fun c2 => ?_) (fun c2 => ?_)
    · have h := itp c2 h
      exact w52 _ hk7 v0 v1 v2 v3 v4 _ (lv_sub hl [0, 1, 2, 3, 4] rfl) h
    · have h := itn c2 h
      refine lv_iload_n hx hb dX3_sorted_23 rfl (lv_at hl 0 rfl) ?_
      refine lv_iload hx hb dX3_sorted_24 (lv_at hl 5 rfl) ?_
      refine ro_i (runS (As := [.int v0, .int v5]) (rest := []) cx hl.1 (ctX3_typeAt l g v0 v5 (fX3_typeAt v0 v5) rfl) kmX3_typeAt ksX3_typeAt lm_X3_9 ⟨rfl, rfl⟩ ⟨Nat.le_of_ble_eq_true rfl, Nat.le_of_ble_eq_true rfl⟩ (roS hG (hP.sub [] rfl)) rfl rfl (Nat.le_of_ble_eq_true rfl) dX3_sorted_26 ⟨Nat.le_of_ble_eq_true rfl, Nat.le_of_ble_eq_true rfl⟩) ?_
      refine lv_iload hx hb dX3_sorted_29 (lv_at hl 4 rfl) ?_
      refine lv_icmp_ne (tgt := 46) hx hb dX3_sorted_31 (by decide) (fun c3 => ?_) (fun c3 => ?_)
      · have h := itn c3 h
        exact w46 _ hk7 _ ih v0 v1 v2 v3 v4 v5 _ (lv_sub hl [0, 1, 2, 3, 4, 5] rfl) h
      · have h := itp c3 h
        refine lv_iload_n hx hb dX3_sorted_34 rfl (lv_at hl 2 rfl) ?_
        refine lv_iload hx hb dX3_sorted_35 (lv_at hl 4 rfl) ?_
        refine lv_iconst (v := 4) hx hb dX3_sorted_37 (by decide) ?_
        refine lv_iload_n hx hb dX3_sorted_38 rfl (lv_at hl 3 rfl) ?_
        refine lv_imul hx hb dX3_sorted_39 ?_
        refine lv_ishl hx hb dX3_sorted_40 ?_
        refine lv_ior hx hb dX3_sorted_41 ?_
        refine lv_istore_n (lv' := [(2, .int (v2 ||| (v4 <<< ((4 * v3) &&& 31)))), (0, .int v0), (1, .int v1), (3, .int v3), (4, .int v4), (5, .int v5)]) hx hb dX3_sorted_42 rfl hl (by decide) rfl (fun ls hl => ?_)
        refine lv_iinc (v := v3 + 1) (lv' := [(3, .int (v3 + 1)), (2, .int (v2 ||| (v4 <<< ((4 * v3) &&& 31)))), (0, .int v0), (1, .int v1), (4, .int v4), (5, .int v5)]) hx hb dX3_sorted_43 hl (k := 3) rfl rfl (by decide) rfl (fun ls hl => ?_)
        exact w46 _ hk7 _ ih v0 v1 (v2 ||| (v4 <<< ((4 * v3) &&& 31))) (v3 + 1) v4 v5 _ (lv_sub hl [2, 3, 1, 0, 4, 5] rfl) h
  have w7 : ∀ (n : Nat) (v0 : Int32) (v1 : Int32) (v2 : Int32) (v3 : Int32) (v4 : Int32) (ls : Array Slot), lv_has ls 6 [(0, .int v0), (1, .int v1), (2, .int v2), (3, .int v3), (4, .int v4)] → fX3_sorted_7  n v0 v1 v2 v3 v4 = some o → W p l e ⟨1, 0, 0, 21⟩ s m args below meth c s.heap [] 0 0 Q (F0 m 7 ls []) := by
    intro n
    induction n with
    | zero => intro v0 v1 v2 v3 v4 ls hl h; cases (fX3_sorted_7_z  v0 v1 v2 v3 v4).symm.trans h
    | succ n ih =>
    intro v0 v1 v2 v3 v4 ls hl h
    have h := (fX3_sorted_7_s  n v0 v1 v2 v3 v4).symm.trans h
    refine lv_iload hx hb dX3_sorted_7 (lv_at hl 4 rfl) ?_
    refine lv_bipush (v := 16) hx hb dX3_sorted_9 (by decide) ?_
    refine lv_icmp_ge (tgt := 58) hx hb dX3_sorted_11 (by decide) (fun c1 => ?_) (fun c1 => ?_)
    · have h := itp c1 h
      refine lv_iload_n hx hb dX3_sorted_58 rfl (lv_at hl 2 rfl) ?_
      exact hret _ _ _ dX3_sorted_59 (Option.some.inj h)
    · have h := itn c1 h
      refine lv_iconst (v := 0) hx hb dX3_sorted_14 (by decide) ?_
      refine lv_istore (lv' := [(5, .int (0)), (0, .int v0), (1, .int v1), (2, .int v2), (3, .int v3), (4, .int v4)]) hx hb dX3_sorted_15 hl (by decide) rfl (fun ls hl => ?_)
      exact w17 _ ih FU v0 v1 v2 v3 v4 0 _ (lv_sub hl [1, 2, 3, 4, 5, 0] rfl) h
  unfold fX3_sorted at h
  refine lv_iconst (v := 0) hx hb dX3_sorted_0 (by decide) ?_
  refine lv_istore_n (lv' := [(2, .int (0)), (0, .int v0), (1, .int v1)]) hx hb dX3_sorted_1 rfl hl (by decide) rfl (fun ls hl => ?_)
  refine lv_iconst (v := 0) hx hb dX3_sorted_2 (by decide) ?_
  refine lv_istore_n (lv' := [(3, .int (0)), (2, .int (0)), (0, .int v0), (1, .int v1)]) hx hb dX3_sorted_3 rfl hl (by decide) rfl (fun ls hl => ?_)
  refine lv_iconst (v := 0) hx hb dX3_sorted_4 (by decide) ?_
  refine lv_istore (lv' := [(4, .int (0)), (3, .int (0)), (2, .int (0)), (0, .int v0), (1, .int v1)]) hx hb dX3_sorted_5 hl (by decide) rfl (fun ls hl => ?_)
  exact w7 FU v0 v1 0 0 0 _ (lv_sub hl [3, 4, 2, 1, 0] rfl) h
-- X3_isMirrored
theorem dX3_isMirrored_0 : decode cX3_isMirrored 0 = .ok (.iconst 0, 1) := by decide +kernel
theorem dX3_isMirrored_1 : decode cX3_isMirrored 1 = .ok (.istore_n 2, 1) := by decide +kernel
theorem dX3_isMirrored_2 : decode cX3_isMirrored 2 = .ok (.iload_n 2, 1) := by decide +kernel
theorem dX3_isMirrored_3 : decode cX3_isMirrored 3 = .ok (.iload_n 1, 1) := by decide +kernel
theorem dX3_isMirrored_4 : decode cX3_isMirrored 4 = .ok (.iconst 2, 1) := by decide +kernel
theorem dX3_isMirrored_5 : decode cX3_isMirrored 5 = .ok (.idiv, 1) := by decide +kernel
theorem dX3_isMirrored_6 : decode cX3_isMirrored 6 = .ok (.if_icmp .ge 28, 3) := by decide +kernel
theorem dX3_isMirrored_9 : decode cX3_isMirrored 9 = .ok (.iload_n 0, 1) := by decide +kernel
theorem dX3_isMirrored_10 : decode cX3_isMirrored 10 = .ok (.iload_n 2, 1) := by decide +kernel
theorem dX3_isMirrored_11 : decode cX3_isMirrored 11 = .ok (.invokestatic 9, 3) := by decide +kernel
theorem dX3_isMirrored_14 : decode cX3_isMirrored 14 = .ok (.iload_n 0, 1) := by decide +kernel
theorem dX3_isMirrored_15 : decode cX3_isMirrored 15 = .ok (.iload_n 1, 1) := by decide +kernel
theorem dX3_isMirrored_16 : decode cX3_isMirrored 16 = .ok (.iconst 1, 1) := by decide +kernel
theorem dX3_isMirrored_17 : decode cX3_isMirrored 17 = .ok (.isub, 1) := by decide +kernel
theorem dX3_isMirrored_18 : decode cX3_isMirrored 18 = .ok (.iload_n 2, 1) := by decide +kernel
theorem dX3_isMirrored_19 : decode cX3_isMirrored 19 = .ok (.isub, 1) := by decide +kernel
theorem dX3_isMirrored_20 : decode cX3_isMirrored 20 = .ok (.invokestatic 9, 3) := by decide +kernel
theorem dX3_isMirrored_23 : decode cX3_isMirrored 23 = .ok (.if_icmp .eq 5, 3) := by decide +kernel
theorem dX3_isMirrored_26 : decode cX3_isMirrored 26 = .ok (.iconst 0, 1) := by decide +kernel
theorem dX3_isMirrored_27 : decode cX3_isMirrored 27 = .ok (.ireturn, 1) := by decide +kernel
theorem dX3_isMirrored_28 : decode cX3_isMirrored 28 = .ok (.iinc 2 1, 3) := by decide +kernel
theorem dX3_isMirrored_31 : decode cX3_isMirrored 31 = .ok (.goto (-29), 3) := by decide +kernel
theorem dX3_isMirrored_34 : decode cX3_isMirrored 34 = .ok (.iconst 1, 1) := by decide +kernel
theorem dX3_isMirrored_35 : decode cX3_isMirrored 35 = .ok (.ireturn, 1) := by decide +kernel
noncomputable def fX3_isMirrored_2  : Nat → Int32 → Int32 → Int32 → Option (Int32)
  | 0, _, _, _ => none
  | n + 1, v0, v1, v2 => (if (v1 / 2) ≤ v2 then some (1) else (if (fX3_typeAt v0 v2) = (fX3_typeAt v0 ((v1 - 1) - v2)) then fX3_isMirrored_2 n v0 v1 (v2 + 1) else some (0)))
theorem fX3_isMirrored_2_z  (v0 : Int32) (v1 : Int32) (v2 : Int32) : fX3_isMirrored_2  0 v0 v1 v2 = none := rfl
theorem fX3_isMirrored_2_s  (n : Nat) (v0 : Int32) (v1 : Int32) (v2 : Int32) : fX3_isMirrored_2  (n + 1) v0 v1 v2 = (if (v1 / 2) ≤ v2 then some (1) else (if (fX3_typeAt v0 v2) = (fX3_typeAt v0 ((v1 - 1) - v2)) then fX3_isMirrored_2 n v0 v1 (v2 + 1) else some (0))) := rfl
noncomputable def fX3_isMirrored  (v0 : Int32) (v1 : Int32) : Option (Int32) := fX3_isMirrored_2 FU v0 v1 0
set_option maxHeartbeats 4000000 in
set_option maxRecDepth 100000 in
theorem ctX3_isMirrored (l : Launch) (g : GT) (v0 : Int32) (v1 : Int32) (o : Int32) (h : fX3_isMirrored v0 v1 = some o) : Met l yX3_isMirrored (Cond.code yX3_isMirrored cX3_isMirrored 3 (some .boolean) :: Tw) ⟨1, 0, 0, 21⟩ (va_Pc [.int v0, .int v1] (roB g [])) (vp_Si (fun x => x = o ∧ (x = 0 ∨ x = 1))) 0 0 (fun _ => False) := by
  refine ro_metz (by decide) (Nat.le_of_ble_eq_true rfl) (lv0 := [(0, .int v0), (1, .int v1)]) rfl ?_
  intro p e s m args below meth c ls Q cx hret hG hP hl
  have hx := cx.1
  have hb := cx.2.1
  have hG0 := hG
  have w2 : ∀ (n : Nat) (v0 : Int32) (v1 : Int32) (v2 : Int32) (ls : Array Slot), lv_has ls 3 [(0, .int v0), (1, .int v1), (2, .int v2)] → fX3_isMirrored_2  n v0 v1 v2 = some o → W p l e ⟨1, 0, 0, 21⟩ s m args below meth c s.heap [] 0 0 Q (F0 m 2 ls []) := by
    intro n
    induction n with
    | zero => intro v0 v1 v2 ls hl h; cases (fX3_isMirrored_2_z  v0 v1 v2).symm.trans h
    | succ n ih =>
    intro v0 v1 v2 ls hl h
    have h := (fX3_isMirrored_2_s  n v0 v1 v2).symm.trans h
    refine lv_iload_n hx hb dX3_isMirrored_2 rfl (lv_at hl 2 rfl) ?_
    refine lv_iload_n hx hb dX3_isMirrored_3 rfl (lv_at hl 1 rfl) ?_
    refine lv_iconst (v := 2) hx hb dX3_isMirrored_4 (by decide) ?_
    refine lv_idiv hx hb dX3_isMirrored_5 (by decide) ?_
    refine lv_icmp_ge (tgt := 34) hx hb dX3_isMirrored_6 (by decide) (fun c1 => ?_) (fun c1 => ?_)
    · have h := itp c1 h
      refine lv_iconst (v := 1) hx hb dX3_isMirrored_34 (by decide) ?_
      exact hret _ _ _ dX3_isMirrored_35 (by decide) (Option.some.inj h)
    · have h := itn c1 h
      refine lv_iload_n hx hb dX3_isMirrored_9 rfl (lv_at hl 0 rfl) ?_
      refine lv_iload_n hx hb dX3_isMirrored_10 rfl (lv_at hl 2 rfl) ?_
      refine ro_i (runS (As := [.int v0, .int v2]) (rest := []) cx hl.1 (ctX3_typeAt l g v0 v2 (fX3_typeAt v0 v2) rfl) kmX3_typeAt ksX3_typeAt lm_X3_9 ⟨rfl, rfl⟩ ⟨Nat.le_of_ble_eq_true rfl, Nat.le_of_ble_eq_true rfl⟩ (roS hG (hP.sub [] rfl)) rfl rfl (Nat.le_of_ble_eq_true rfl) dX3_isMirrored_11 ⟨Nat.le_of_ble_eq_true rfl, Nat.le_of_ble_eq_true rfl⟩) ?_
      refine lv_iload_n hx hb dX3_isMirrored_14 rfl (lv_at hl 0 rfl) ?_
      refine lv_iload_n hx hb dX3_isMirrored_15 rfl (lv_at hl 1 rfl) ?_
      refine lv_iconst (v := 1) hx hb dX3_isMirrored_16 (by decide) ?_
      refine lv_isub hx hb dX3_isMirrored_17 ?_
      refine lv_iload_n hx hb dX3_isMirrored_18 rfl (lv_at hl 2 rfl) ?_
      refine lv_isub hx hb dX3_isMirrored_19 ?_
      refine ro_i (runS (As := [.int v0, .int ((v1 - 1) - v2)]) (rest := [.int (fX3_typeAt v0 v2)]) cx hl.1 (ctX3_typeAt l g v0 ((v1 - 1) - v2) (fX3_typeAt v0 ((v1 - 1) - v2)) rfl) kmX3_typeAt ksX3_typeAt lm_X3_9 ⟨rfl, rfl⟩ ⟨Nat.le_of_ble_eq_true rfl, Nat.le_of_ble_eq_true rfl⟩ (roS hG (hP.sub [] rfl)) rfl rfl (Nat.le_of_ble_eq_true rfl) dX3_isMirrored_20 ⟨Nat.le_of_ble_eq_true rfl, Nat.le_of_ble_eq_true rfl⟩) ?_
      refine lv_icmp_eq (tgt := 28) hx hb dX3_isMirrored_23 (by decide) (fun c2 => ?_) (fun c2 => ?_)
      · have h := itp c2 h
        refine lv_iinc (v := v2 + 1) (lv' := [(2, .int (v2 + 1)), (0, .int v0), (1, .int v1)]) hx hb dX3_isMirrored_28 hl (k := 2) rfl rfl (by decide) rfl (fun ls hl => ?_)
        refine lv_goto (tgt := 2) hx hb dX3_isMirrored_31 (by decide) ?_
        exact ih v0 v1 (v2 + 1) _ (lv_sub hl [1, 2, 0] rfl) h
      · have h := itn c2 h
        refine lv_iconst (v := 0) hx hb dX3_isMirrored_26 (by decide) ?_
        exact hret _ _ _ dX3_isMirrored_27 (by decide) (Option.some.inj h)
  unfold fX3_isMirrored at h
  refine lv_iconst (v := 0) hx hb dX3_isMirrored_0 (by decide) ?_
  refine lv_istore_n (lv' := [(2, .int (0)), (0, .int v0), (1, .int v1)]) hx hb dX3_isMirrored_1 rfl hl (by decide) rfl (fun ls hl => ?_)
  exact w2 FU v0 v1 0 _ (lv_sub hl [1, 2, 0] rfl) h
-- X3_longestRun
theorem dX3_longestRun_0 : decode cX3_longestRun 0 = .ok (.iconst 0, 1) := by decide +kernel
theorem dX3_longestRun_1 : decode cX3_longestRun 1 = .ok (.istore_n 2, 1) := by decide +kernel
theorem dX3_longestRun_2 : decode cX3_longestRun 2 = .ok (.iconst 0, 1) := by decide +kernel
theorem dX3_longestRun_3 : decode cX3_longestRun 3 = .ok (.istore_n 3, 1) := by decide +kernel
theorem dX3_longestRun_4 : decode cX3_longestRun 4 = .ok (.iconst 0, 1) := by decide +kernel
theorem dX3_longestRun_5 : decode cX3_longestRun 5 = .ok (.istore 4, 2) := by decide +kernel
theorem dX3_longestRun_7 : decode cX3_longestRun 7 = .ok (.iload 4, 2) := by decide +kernel
theorem dX3_longestRun_9 : decode cX3_longestRun 9 = .ok (.iload_n 1, 1) := by decide +kernel
theorem dX3_longestRun_10 : decode cX3_longestRun 10 = .ok (.if_icmp .ge 45, 3) := by decide +kernel
theorem dX3_longestRun_13 : decode cX3_longestRun 13 = .ok (.iload 4, 2) := by decide +kernel
theorem dX3_longestRun_15 : decode cX3_longestRun 15 = .ok (.ifCond .le 26, 3) := by decide +kernel
theorem dX3_longestRun_18 : decode cX3_longestRun 18 = .ok (.iload_n 0, 1) := by decide +kernel
theorem dX3_longestRun_19 : decode cX3_longestRun 19 = .ok (.iload 4, 2) := by decide +kernel
theorem dX3_longestRun_21 : decode cX3_longestRun 21 = .ok (.invokestatic 15, 3) := by decide +kernel
theorem dX3_longestRun_24 : decode cX3_longestRun 24 = .ok (.iload_n 0, 1) := by decide +kernel
theorem dX3_longestRun_25 : decode cX3_longestRun 25 = .ok (.iload 4, 2) := by decide +kernel
theorem dX3_longestRun_27 : decode cX3_longestRun 27 = .ok (.iconst 1, 1) := by decide +kernel
theorem dX3_longestRun_28 : decode cX3_longestRun 28 = .ok (.isub, 1) := by decide +kernel
theorem dX3_longestRun_29 : decode cX3_longestRun 29 = .ok (.invokestatic 15, 3) := by decide +kernel
theorem dX3_longestRun_32 : decode cX3_longestRun 32 = .ok (.if_icmp .ne 9, 3) := by decide +kernel
theorem dX3_longestRun_35 : decode cX3_longestRun 35 = .ok (.iload_n 3, 1) := by decide +kernel
theorem dX3_longestRun_36 : decode cX3_longestRun 36 = .ok (.iconst 1, 1) := by decide +kernel
theorem dX3_longestRun_37 : decode cX3_longestRun 37 = .ok (.iadd, 1) := by decide +kernel
theorem dX3_longestRun_38 : decode cX3_longestRun 38 = .ok (.goto 4, 3) := by decide +kernel
theorem dX3_longestRun_41 : decode cX3_longestRun 41 = .ok (.iconst 1, 1) := by decide +kernel
theorem dX3_longestRun_42 : decode cX3_longestRun 42 = .ok (.istore_n 3, 1) := by decide +kernel
theorem dX3_longestRun_43 : decode cX3_longestRun 43 = .ok (.iload_n 2, 1) := by decide +kernel
theorem dX3_longestRun_44 : decode cX3_longestRun 44 = .ok (.iload_n 3, 1) := by decide +kernel
theorem dX3_longestRun_45 : decode cX3_longestRun 45 = .ok (.invokestatic 18, 3) := by decide +kernel
theorem dX3_longestRun_48 : decode cX3_longestRun 48 = .ok (.istore_n 2, 1) := by decide +kernel
theorem dX3_longestRun_49 : decode cX3_longestRun 49 = .ok (.iinc 4 1, 3) := by decide +kernel
theorem dX3_longestRun_52 : decode cX3_longestRun 52 = .ok (.goto (-45), 3) := by decide +kernel
theorem dX3_longestRun_55 : decode cX3_longestRun 55 = .ok (.iload_n 2, 1) := by decide +kernel
theorem dX3_longestRun_56 : decode cX3_longestRun 56 = .ok (.ireturn, 1) := by decide +kernel
noncomputable def fX3_longestRun_42 (k7 : Int32 → Int32 → Int32 → Int32 → Int32 → Option (Int32)) (v0 : Int32) (v1 : Int32) (v2 : Int32) (v4 : Int32) (z0 : Int32) : Option (Int32) := k7 v0 v1 (imax v2 z0) z0 (v4 + 1)
noncomputable def fX3_longestRun_41 (k7 : Int32 → Int32 → Int32 → Int32 → Int32 → Option (Int32)) (v0 : Int32) (v1 : Int32) (v2 : Int32) (v4 : Int32) : Option (Int32) := fX3_longestRun_42 k7 v0 v1 v2 v4 1
noncomputable def fX3_longestRun_7  : Nat → Int32 → Int32 → Int32 → Int32 → Int32 → Option (Int32)
  | 0, _, _, _, _, _ => none
  | n + 1, v0, v1, v2, v3, v4 => (if v1 ≤ v4 then some v2 else (if v4 ≤ 0 then fX3_longestRun_41 (fX3_longestRun_7 n) v0 v1 v2 v4 else (if (fX3_angleAt v0 v4) = (fX3_angleAt v0 (v4 - 1)) then fX3_longestRun_42 (fX3_longestRun_7 n) v0 v1 v2 v4 (v3 + 1) else fX3_longestRun_41 (fX3_longestRun_7 n) v0 v1 v2 v4)))
theorem fX3_longestRun_7_z  (v0 : Int32) (v1 : Int32) (v2 : Int32) (v3 : Int32) (v4 : Int32) : fX3_longestRun_7  0 v0 v1 v2 v3 v4 = none := rfl
theorem fX3_longestRun_7_s  (n : Nat) (v0 : Int32) (v1 : Int32) (v2 : Int32) (v3 : Int32) (v4 : Int32) : fX3_longestRun_7  (n + 1) v0 v1 v2 v3 v4 = (if v1 ≤ v4 then some v2 else (if v4 ≤ 0 then fX3_longestRun_41 (fX3_longestRun_7 n) v0 v1 v2 v4 else (if (fX3_angleAt v0 v4) = (fX3_angleAt v0 (v4 - 1)) then fX3_longestRun_42 (fX3_longestRun_7 n) v0 v1 v2 v4 (v3 + 1) else fX3_longestRun_41 (fX3_longestRun_7 n) v0 v1 v2 v4))) := rfl
noncomputable def fX3_longestRun  (v0 : Int32) (v1 : Int32) : Option (Int32) := fX3_longestRun_7 FU v0 v1 0 0 0
set_option maxHeartbeats 4000000 in
set_option maxRecDepth 100000 in
theorem ctX3_longestRun (l : Launch) (g : GT) (v0 : Int32) (v1 : Int32) (o : Int32) (h : fX3_longestRun v0 v1 = some o) : Met l yX3_longestRun (Cond.code yX3_longestRun cX3_longestRun 5 (some .int) :: Tw) ⟨1, 0, 0, 26⟩ (va_Pc [.int v0, .int v1] (roB g [])) (vp_Si (fun x => x = o)) 0 0 (fun _ => False) := by
  refine ro_meti (by decide) (Nat.le_of_ble_eq_true rfl) (lv0 := [(0, .int v0), (1, .int v1)]) rfl ?_
  intro p e s m args below meth c ls Q cx hret hG hP hl
  have hx := cx.1
  have hb := cx.2.1
  have hG0 := hG
  have w42 : ∀ (k7 : Int32 → Int32 → Int32 → Int32 → Int32 → Option (Int32)) (hk7 : ∀ (v0 : Int32) (v1 : Int32) (v2 : Int32) (v3 : Int32) (v4 : Int32) (ls : Array Slot), lv_has ls 5 [(0, .int v0), (1, .int v1), (2, .int v2), (3, .int v3), (4, .int v4)] → k7 v0 v1 v2 v3 v4 = some o → W p l e ⟨1, 0, 0, 26⟩ s m args below meth c s.heap [] 0 0 Q (F0 m 7 ls [])) (v0 : Int32) (v1 : Int32) (v2 : Int32) (v4 : Int32) (z0 : Int32) (ls : Array Slot), lv_has ls 5 [(0, .int v0), (1, .int v1), (2, .int v2), (4, .int v4)] → fX3_longestRun_42 k7 v0 v1 v2 v4 z0 = some o → W p l e ⟨1, 0, 0, 26⟩ s m args below meth c s.heap [] 0 0 Q (F0 m 42 ls [.int z0]) := by
    intro k7 hk7 v0 v1 v2 v4 z0 ls hl h
    unfold fX3_longestRun_42 at h
    refine lv_istore_n (lv' := [(3, .int z0), (0, .int v0), (1, .int v1), (2, .int v2), (4, .int v4)]) hx hb dX3_longestRun_42 rfl hl (by decide) rfl (fun ls hl => ?_)
    refine lv_iload_n hx hb dX3_longestRun_43 rfl (lv_at hl 3 rfl) ?_
    refine lv_iload_n hx hb dX3_longestRun_44 rfl (lv_at hl 0 rfl) ?_
    refine xm_imax cx hl.1 lm_X3_18 ⟨ksJ9_max_7cf53, kmJ9_max_7cf53.2.1, kmJ9_max_7cf53.1⟩ (Nat.le_of_ble_eq_true rfl) (Nat.le_of_ble_eq_true rfl) (Nat.le_of_ble_eq_true rfl) (Nat.le_of_ble_eq_true rfl) dX3_longestRun_45 ?_
    refine lv_istore_n (lv' := [(2, .int (imax v2 z0)), (3, .int z0), (0, .int v0), (1, .int v1), (4, .int v4)]) hx hb dX3_longestRun_48 rfl hl (by decide) rfl (fun ls hl => ?_)
    refine lv_iinc (v := v4 + 1) (lv' := [(4, .int (v4 + 1)), (2, .int (imax v2 z0)), (3, .int z0), (0, .int v0), (1, .int v1)]) hx hb dX3_longestRun_49 hl (k := 4) rfl rfl (by decide) rfl (fun ls hl => ?_)
    refine lv_goto (tgt := 7) hx hb dX3_longestRun_52 (by decide) ?_
    exact hk7 v0 v1 (imax v2 z0) z0 (v4 + 1) _ (lv_sub hl [3, 4, 1, 2, 0] rfl) h
  have w41 : ∀ (k7 : Int32 → Int32 → Int32 → Int32 → Int32 → Option (Int32)) (hk7 : ∀ (v0 : Int32) (v1 : Int32) (v2 : Int32) (v3 : Int32) (v4 : Int32) (ls : Array Slot), lv_has ls 5 [(0, .int v0), (1, .int v1), (2, .int v2), (3, .int v3), (4, .int v4)] → k7 v0 v1 v2 v3 v4 = some o → W p l e ⟨1, 0, 0, 26⟩ s m args below meth c s.heap [] 0 0 Q (F0 m 7 ls [])) (v0 : Int32) (v1 : Int32) (v2 : Int32) (v4 : Int32) (ls : Array Slot), lv_has ls 5 [(0, .int v0), (1, .int v1), (2, .int v2), (4, .int v4)] → fX3_longestRun_41 k7 v0 v1 v2 v4 = some o → W p l e ⟨1, 0, 0, 26⟩ s m args below meth c s.heap [] 0 0 Q (F0 m 41 ls []) := by
    intro k7 hk7 v0 v1 v2 v4 ls hl h
    unfold fX3_longestRun_41 at h
    refine lv_iconst (v := 1) hx hb dX3_longestRun_41 (by decide) ?_
    exact w42 _ hk7 v0 v1 v2 v4 1 _ (lv_sub hl [0, 1, 2, 3] rfl) h
  have w7 : ∀ (n : Nat) (v0 : Int32) (v1 : Int32) (v2 : Int32) (v3 : Int32) (v4 : Int32) (ls : Array Slot), lv_has ls 5 [(0, .int v0), (1, .int v1), (2, .int v2), (3, .int v3), (4, .int v4)] → fX3_longestRun_7  n v0 v1 v2 v3 v4 = some o → W p l e ⟨1, 0, 0, 26⟩ s m args below meth c s.heap [] 0 0 Q (F0 m 7 ls []) := by
    intro n
    induction n with
    | zero => intro v0 v1 v2 v3 v4 ls hl h; cases (fX3_longestRun_7_z  v0 v1 v2 v3 v4).symm.trans h
    | succ n ih =>
    intro v0 v1 v2 v3 v4 ls hl h
    have h := (fX3_longestRun_7_s  n v0 v1 v2 v3 v4).symm.trans h
    refine lv_iload hx hb dX3_longestRun_7 (lv_at hl 4 rfl) ?_
    refine lv_iload_n hx hb dX3_longestRun_9 rfl (lv_at hl 1 rfl) ?_
    refine lv_icmp_ge (tgt := 55) hx hb dX3_longestRun_10 (by decide) (fun c1 => ?_) (fun c1 => ?_)
    · have h := itp c1 h
      refine lv_iload_n hx hb dX3_longestRun_55 rfl (lv_at hl 2 rfl) ?_
      exact hret _ _ _ dX3_longestRun_56 (Option.some.inj h)
    · have h := itn c1 h
      refine lv_iload hx hb dX3_longestRun_13 (lv_at hl 4 rfl) ?_
      refine lv_if_le (tgt := 41) hx hb dX3_longestRun_15 (by decide) (fun c2 => ?_) (fun c2 => ?_)
      · have h := itp c2 h
        exact w41 _ ih v0 v1 v2 v4 _ (lv_sub hl [0, 1, 2, 4] rfl) h
      · have h := itn c2 h
        refine lv_iload_n hx hb dX3_longestRun_18 rfl (lv_at hl 0 rfl) ?_
        refine lv_iload hx hb dX3_longestRun_19 (lv_at hl 4 rfl) ?_
        refine ro_i (runS (As := [.int v0, .int v4]) (rest := []) cx hl.1 (ctX3_angleAt l g v0 v4 (fX3_angleAt v0 v4) rfl) kmX3_angleAt ksX3_angleAt lm_X3_15 ⟨rfl, rfl⟩ ⟨Nat.le_of_ble_eq_true rfl, Nat.le_of_ble_eq_true rfl⟩ (roS hG (hP.sub [] rfl)) rfl rfl (Nat.le_of_ble_eq_true rfl) dX3_longestRun_21 ⟨Nat.le_of_ble_eq_true rfl, Nat.le_of_ble_eq_true rfl⟩) ?_
        refine lv_iload_n hx hb dX3_longestRun_24 rfl (lv_at hl 0 rfl) ?_
        refine lv_iload hx hb dX3_longestRun_25 (lv_at hl 4 rfl) ?_
        refine lv_iconst (v := 1) hx hb dX3_longestRun_27 (by decide) ?_
        refine lv_isub hx hb dX3_longestRun_28 ?_
        refine ro_i (runS (As := [.int v0, .int (v4 - 1)]) (rest := [.int (fX3_angleAt v0 v4)]) cx hl.1 (ctX3_angleAt l g v0 (v4 - 1) (fX3_angleAt v0 (v4 - 1)) rfl) kmX3_angleAt ksX3_angleAt lm_X3_15 ⟨rfl, rfl⟩ ⟨Nat.le_of_ble_eq_true rfl, Nat.le_of_ble_eq_true rfl⟩ (roS hG (hP.sub [] rfl)) rfl rfl (Nat.le_of_ble_eq_true rfl) dX3_longestRun_29 ⟨Nat.le_of_ble_eq_true rfl, Nat.le_of_ble_eq_true rfl⟩) ?_
        refine lv_icmp_ne (tgt := 41) hx hb dX3_longestRun_32 (by decide) (fun c3 => ?_) (fun c3 => ?_)
        · have h := itn c3 h
          exact w41 _ ih v0 v1 v2 v4 _ (lv_sub hl [0, 1, 2, 4] rfl) h
        · have h := itp c3 h
          refine lv_iload_n hx hb dX3_longestRun_35 rfl (lv_at hl 3 rfl) ?_
          refine lv_iconst (v := 1) hx hb dX3_longestRun_36 (by decide) ?_
          refine lv_iadd hx hb dX3_longestRun_37 ?_
          refine lv_goto (tgt := 42) hx hb dX3_longestRun_38 (by decide) ?_
          exact w42 _ ih v0 v1 v2 v4 (v3 + 1) _ (lv_sub hl [0, 1, 2, 4] rfl) h
  unfold fX3_longestRun at h
  refine lv_iconst (v := 0) hx hb dX3_longestRun_0 (by decide) ?_
  refine lv_istore_n (lv' := [(2, .int (0)), (0, .int v0), (1, .int v1)]) hx hb dX3_longestRun_1 rfl hl (by decide) rfl (fun ls hl => ?_)
  refine lv_iconst (v := 0) hx hb dX3_longestRun_2 (by decide) ?_
  refine lv_istore_n (lv' := [(3, .int (0)), (2, .int (0)), (0, .int v0), (1, .int v1)]) hx hb dX3_longestRun_3 rfl hl (by decide) rfl (fun ls hl => ?_)
  refine lv_iconst (v := 0) hx hb dX3_longestRun_4 (by decide) ?_
  refine lv_istore (lv' := [(4, .int (0)), (3, .int (0)), (2, .int (0)), (0, .int v0), (1, .int v1)]) hx hb dX3_longestRun_5 hl (by decide) rfl (fun ls hl => ?_)
  exact w7 FU v0 v1 0 0 0 _ (lv_sub hl [3, 4, 2, 1, 0] rfl) h
-- X3_firstRun
theorem dX3_firstRun_0 : decode cX3_firstRun 0 = .ok (.iconst 0, 1) := by decide +kernel
theorem dX3_firstRun_1 : decode cX3_firstRun 1 = .ok (.istore_n 3, 1) := by decide +kernel
theorem dX3_firstRun_2 : decode cX3_firstRun 2 = .ok (.iconst 0, 1) := by decide +kernel
theorem dX3_firstRun_3 : decode cX3_firstRun 3 = .ok (.istore 4, 2) := by decide +kernel
theorem dX3_firstRun_5 : decode cX3_firstRun 5 = .ok (.iload 4, 2) := by decide +kernel
theorem dX3_firstRun_7 : decode cX3_firstRun 7 = .ok (.iload_n 1, 1) := by decide +kernel
theorem dX3_firstRun_8 : decode cX3_firstRun 8 = .ok (.if_icmp .ge 51, 3) := by decide +kernel
theorem dX3_firstRun_11 : decode cX3_firstRun 11 = .ok (.iload 4, 2) := by decide +kernel
theorem dX3_firstRun_13 : decode cX3_firstRun 13 = .ok (.ifCond .le 26, 3) := by decide +kernel
theorem dX3_firstRun_16 : decode cX3_firstRun 16 = .ok (.iload_n 0, 1) := by decide +kernel
theorem dX3_firstRun_17 : decode cX3_firstRun 17 = .ok (.iload 4, 2) := by decide +kernel
theorem dX3_firstRun_19 : decode cX3_firstRun 19 = .ok (.invokestatic 15, 3) := by decide +kernel
theorem dX3_firstRun_22 : decode cX3_firstRun 22 = .ok (.iload_n 0, 1) := by decide +kernel
theorem dX3_firstRun_23 : decode cX3_firstRun 23 = .ok (.iload 4, 2) := by decide +kernel
theorem dX3_firstRun_25 : decode cX3_firstRun 25 = .ok (.iconst 1, 1) := by decide +kernel
theorem dX3_firstRun_26 : decode cX3_firstRun 26 = .ok (.isub, 1) := by decide +kernel
theorem dX3_firstRun_27 : decode cX3_firstRun 27 = .ok (.invokestatic 15, 3) := by decide +kernel
theorem dX3_firstRun_30 : decode cX3_firstRun 30 = .ok (.if_icmp .ne 9, 3) := by decide +kernel
theorem dX3_firstRun_33 : decode cX3_firstRun 33 = .ok (.iload_n 3, 1) := by decide +kernel
theorem dX3_firstRun_34 : decode cX3_firstRun 34 = .ok (.iconst 1, 1) := by decide +kernel
theorem dX3_firstRun_35 : decode cX3_firstRun 35 = .ok (.iadd, 1) := by decide +kernel
theorem dX3_firstRun_36 : decode cX3_firstRun 36 = .ok (.goto 4, 3) := by decide +kernel
theorem dX3_firstRun_39 : decode cX3_firstRun 39 = .ok (.iconst 1, 1) := by decide +kernel
theorem dX3_firstRun_40 : decode cX3_firstRun 40 = .ok (.istore_n 3, 1) := by decide +kernel
theorem dX3_firstRun_41 : decode cX3_firstRun 41 = .ok (.iload_n 3, 1) := by decide +kernel
theorem dX3_firstRun_42 : decode cX3_firstRun 42 = .ok (.iload_n 2, 1) := by decide +kernel
theorem dX3_firstRun_43 : decode cX3_firstRun 43 = .ok (.if_icmp .ne 10, 3) := by decide +kernel
theorem dX3_firstRun_46 : decode cX3_firstRun 46 = .ok (.iload 4, 2) := by decide +kernel
theorem dX3_firstRun_48 : decode cX3_firstRun 48 = .ok (.iconst 1, 1) := by decide +kernel
theorem dX3_firstRun_49 : decode cX3_firstRun 49 = .ok (.iadd, 1) := by decide +kernel
theorem dX3_firstRun_50 : decode cX3_firstRun 50 = .ok (.iload_n 3, 1) := by decide +kernel
theorem dX3_firstRun_51 : decode cX3_firstRun 51 = .ok (.isub, 1) := by decide +kernel
theorem dX3_firstRun_52 : decode cX3_firstRun 52 = .ok (.ireturn, 1) := by decide +kernel
theorem dX3_firstRun_53 : decode cX3_firstRun 53 = .ok (.iinc 4 1, 3) := by decide +kernel
theorem dX3_firstRun_56 : decode cX3_firstRun 56 = .ok (.goto (-51), 3) := by decide +kernel
theorem dX3_firstRun_59 : decode cX3_firstRun 59 = .ok (.iconst (-1), 1) := by decide +kernel
theorem dX3_firstRun_60 : decode cX3_firstRun 60 = .ok (.ireturn, 1) := by decide +kernel
noncomputable def fX3_firstRun_40 (k5 : Int32 → Int32 → Int32 → Int32 → Int32 → Option (Int32)) (v0 : Int32) (v1 : Int32) (v2 : Int32) (v4 : Int32) (z0 : Int32) : Option (Int32) := (if z0 = v2 then some ((v4 + 1) - z0) else k5 v0 v1 v2 z0 (v4 + 1))
noncomputable def fX3_firstRun_39 (k5 : Int32 → Int32 → Int32 → Int32 → Int32 → Option (Int32)) (v0 : Int32) (v1 : Int32) (v2 : Int32) (v4 : Int32) : Option (Int32) := fX3_firstRun_40 k5 v0 v1 v2 v4 1
noncomputable def fX3_firstRun_5  : Nat → Int32 → Int32 → Int32 → Int32 → Int32 → Option (Int32)
  | 0, _, _, _, _, _ => none
  | n + 1, v0, v1, v2, v3, v4 => (if v1 ≤ v4 then some (-1) else (if v4 ≤ 0 then fX3_firstRun_39 (fX3_firstRun_5 n) v0 v1 v2 v4 else (if (fX3_angleAt v0 v4) = (fX3_angleAt v0 (v4 - 1)) then fX3_firstRun_40 (fX3_firstRun_5 n) v0 v1 v2 v4 (v3 + 1) else fX3_firstRun_39 (fX3_firstRun_5 n) v0 v1 v2 v4)))
theorem fX3_firstRun_5_z  (v0 : Int32) (v1 : Int32) (v2 : Int32) (v3 : Int32) (v4 : Int32) : fX3_firstRun_5  0 v0 v1 v2 v3 v4 = none := rfl
theorem fX3_firstRun_5_s  (n : Nat) (v0 : Int32) (v1 : Int32) (v2 : Int32) (v3 : Int32) (v4 : Int32) : fX3_firstRun_5  (n + 1) v0 v1 v2 v3 v4 = (if v1 ≤ v4 then some (-1) else (if v4 ≤ 0 then fX3_firstRun_39 (fX3_firstRun_5 n) v0 v1 v2 v4 else (if (fX3_angleAt v0 v4) = (fX3_angleAt v0 (v4 - 1)) then fX3_firstRun_40 (fX3_firstRun_5 n) v0 v1 v2 v4 (v3 + 1) else fX3_firstRun_39 (fX3_firstRun_5 n) v0 v1 v2 v4))) := rfl
noncomputable def fX3_firstRun  (v0 : Int32) (v1 : Int32) (v2 : Int32) : Option (Int32) := fX3_firstRun_5 FU v0 v1 v2 0 0
set_option maxHeartbeats 4000000 in
set_option maxRecDepth 100000 in
theorem ctX3_firstRun (l : Launch) (g : GT) (v0 : Int32) (v1 : Int32) (v2 : Int32) (o : Int32) (h : fX3_firstRun v0 v1 v2 = some o) : Met l yX3_firstRun (Cond.code yX3_firstRun cX3_firstRun 5 (some .int) :: Tw) ⟨1, 0, 0, 21⟩ (va_Pc [.int v0, .int v1, .int v2] (roB g [])) (vp_Si (fun x => x = o)) 0 0 (fun _ => False) := by
  refine ro_meti (by decide) (Nat.le_of_ble_eq_true rfl) (lv0 := [(0, .int v0), (1, .int v1), (2, .int v2)]) rfl ?_
  intro p e s m args below meth c ls Q cx hret hG hP hl
  have hx := cx.1
  have hb := cx.2.1
  have hG0 := hG
  have w40 : ∀ (k5 : Int32 → Int32 → Int32 → Int32 → Int32 → Option (Int32)) (hk5 : ∀ (v0 : Int32) (v1 : Int32) (v2 : Int32) (v3 : Int32) (v4 : Int32) (ls : Array Slot), lv_has ls 5 [(0, .int v0), (1, .int v1), (2, .int v2), (3, .int v3), (4, .int v4)] → k5 v0 v1 v2 v3 v4 = some o → W p l e ⟨1, 0, 0, 21⟩ s m args below meth c s.heap [] 0 0 Q (F0 m 5 ls [])) (v0 : Int32) (v1 : Int32) (v2 : Int32) (v4 : Int32) (z0 : Int32) (ls : Array Slot), lv_has ls 5 [(0, .int v0), (1, .int v1), (2, .int v2), (4, .int v4)] → fX3_firstRun_40 k5 v0 v1 v2 v4 z0 = some o → W p l e ⟨1, 0, 0, 21⟩ s m args below meth c s.heap [] 0 0 Q (F0 m 40 ls [.int z0]) := by
    intro k5 hk5 v0 v1 v2 v4 z0 ls hl h
    unfold fX3_firstRun_40 at h
    refine lv_istore_n (lv' := [(3, .int z0), (0, .int v0), (1, .int v1), (2, .int v2), (4, .int v4)]) hx hb dX3_firstRun_40 rfl hl (by decide) rfl (fun ls hl => ?_)
    refine lv_iload_n hx hb dX3_firstRun_41 rfl (lv_at hl 0 rfl) ?_
    refine lv_iload_n hx hb dX3_firstRun_42 rfl (lv_at hl 3 rfl) ?_
    refine lv_icmp_ne (tgt := 53) hx hb dX3_firstRun_43 (by decide) (fun c4 => ?_) (fun c4 => ?_)
    · have h := itn c4 h
      refine lv_iinc (v := v4 + 1) (lv' := [(4, .int (v4 + 1)), (3, .int z0), (0, .int v0), (1, .int v1), (2, .int v2)]) hx hb dX3_firstRun_53 hl (k := 4) rfl rfl (by decide) rfl (fun ls hl => ?_)
      refine lv_goto (tgt := 5) hx hb dX3_firstRun_56 (by decide) ?_
      exact hk5 v0 v1 v2 z0 (v4 + 1) _ (lv_sub hl [2, 3, 4, 1, 0] rfl) h
    · have h := itp c4 h
      refine lv_iload hx hb dX3_firstRun_46 (lv_at hl 4 rfl) ?_
      refine lv_iconst (v := 1) hx hb dX3_firstRun_48 (by decide) ?_
      refine lv_iadd hx hb dX3_firstRun_49 ?_
      refine lv_iload_n hx hb dX3_firstRun_50 rfl (lv_at hl 0 rfl) ?_
      refine lv_isub hx hb dX3_firstRun_51 ?_
      exact hret _ _ _ dX3_firstRun_52 (Option.some.inj h)
  have w39 : ∀ (k5 : Int32 → Int32 → Int32 → Int32 → Int32 → Option (Int32)) (hk5 : ∀ (v0 : Int32) (v1 : Int32) (v2 : Int32) (v3 : Int32) (v4 : Int32) (ls : Array Slot), lv_has ls 5 [(0, .int v0), (1, .int v1), (2, .int v2), (3, .int v3), (4, .int v4)] → k5 v0 v1 v2 v3 v4 = some o → W p l e ⟨1, 0, 0, 21⟩ s m args below meth c s.heap [] 0 0 Q (F0 m 5 ls [])) (v0 : Int32) (v1 : Int32) (v2 : Int32) (v4 : Int32) (ls : Array Slot), lv_has ls 5 [(0, .int v0), (1, .int v1), (2, .int v2), (4, .int v4)] → fX3_firstRun_39 k5 v0 v1 v2 v4 = some o → W p l e ⟨1, 0, 0, 21⟩ s m args below meth c s.heap [] 0 0 Q (F0 m 39 ls []) := by
    intro k5 hk5 v0 v1 v2 v4 ls hl h
    unfold fX3_firstRun_39 at h
    refine lv_iconst (v := 1) hx hb dX3_firstRun_39 (by decide) ?_
    exact w40 _ hk5 v0 v1 v2 v4 1 _ (lv_sub hl [0, 1, 2, 3] rfl) h
  have w5 : ∀ (n : Nat) (v0 : Int32) (v1 : Int32) (v2 : Int32) (v3 : Int32) (v4 : Int32) (ls : Array Slot), lv_has ls 5 [(0, .int v0), (1, .int v1), (2, .int v2), (3, .int v3), (4, .int v4)] → fX3_firstRun_5  n v0 v1 v2 v3 v4 = some o → W p l e ⟨1, 0, 0, 21⟩ s m args below meth c s.heap [] 0 0 Q (F0 m 5 ls []) := by
    intro n
    induction n with
    | zero => intro v0 v1 v2 v3 v4 ls hl h; cases (fX3_firstRun_5_z  v0 v1 v2 v3 v4).symm.trans h
    | succ n ih =>
    intro v0 v1 v2 v3 v4 ls hl h
    have h := (fX3_firstRun_5_s  n v0 v1 v2 v3 v4).symm.trans h
    refine lv_iload hx hb dX3_firstRun_5 (lv_at hl 4 rfl) ?_
    refine lv_iload_n hx hb dX3_firstRun_7 rfl (lv_at hl 1 rfl) ?_
    refine lv_icmp_ge (tgt := 59) hx hb dX3_firstRun_8 (by decide) (fun c1 => ?_) (fun c1 => ?_)
    · have h := itp c1 h
      refine lv_iconst (v := -1) hx hb dX3_firstRun_59 (by decide) ?_
      exact hret _ _ _ dX3_firstRun_60 (Option.some.inj h)
    · have h := itn c1 h
      refine lv_iload hx hb dX3_firstRun_11 (lv_at hl 4 rfl) ?_
      refine lv_if_le (tgt := 39) hx hb dX3_firstRun_13 (by decide) (fun c2 => ?_) (fun c2 => ?_)
      · have h := itp c2 h
        exact w39 _ ih v0 v1 v2 v4 _ (lv_sub hl [0, 1, 2, 4] rfl) h
      · have h := itn c2 h
        refine lv_iload_n hx hb dX3_firstRun_16 rfl (lv_at hl 0 rfl) ?_
        refine lv_iload hx hb dX3_firstRun_17 (lv_at hl 4 rfl) ?_
        refine ro_i (runS (As := [.int v0, .int v4]) (rest := []) cx hl.1 (ctX3_angleAt l g v0 v4 (fX3_angleAt v0 v4) rfl) kmX3_angleAt ksX3_angleAt lm_X3_15 ⟨rfl, rfl⟩ ⟨Nat.le_of_ble_eq_true rfl, Nat.le_of_ble_eq_true rfl⟩ (roS hG (hP.sub [] rfl)) rfl rfl (Nat.le_of_ble_eq_true rfl) dX3_firstRun_19 ⟨Nat.le_of_ble_eq_true rfl, Nat.le_of_ble_eq_true rfl⟩) ?_
        refine lv_iload_n hx hb dX3_firstRun_22 rfl (lv_at hl 0 rfl) ?_
        refine lv_iload hx hb dX3_firstRun_23 (lv_at hl 4 rfl) ?_
        refine lv_iconst (v := 1) hx hb dX3_firstRun_25 (by decide) ?_
        refine lv_isub hx hb dX3_firstRun_26 ?_
        refine ro_i (runS (As := [.int v0, .int (v4 - 1)]) (rest := [.int (fX3_angleAt v0 v4)]) cx hl.1 (ctX3_angleAt l g v0 (v4 - 1) (fX3_angleAt v0 (v4 - 1)) rfl) kmX3_angleAt ksX3_angleAt lm_X3_15 ⟨rfl, rfl⟩ ⟨Nat.le_of_ble_eq_true rfl, Nat.le_of_ble_eq_true rfl⟩ (roS hG (hP.sub [] rfl)) rfl rfl (Nat.le_of_ble_eq_true rfl) dX3_firstRun_27 ⟨Nat.le_of_ble_eq_true rfl, Nat.le_of_ble_eq_true rfl⟩) ?_
        refine lv_icmp_ne (tgt := 39) hx hb dX3_firstRun_30 (by decide) (fun c3 => ?_) (fun c3 => ?_)
        · have h := itn c3 h
          exact w39 _ ih v0 v1 v2 v4 _ (lv_sub hl [0, 1, 2, 4] rfl) h
        · have h := itp c3 h
          refine lv_iload_n hx hb dX3_firstRun_33 rfl (lv_at hl 3 rfl) ?_
          refine lv_iconst (v := 1) hx hb dX3_firstRun_34 (by decide) ?_
          refine lv_iadd hx hb dX3_firstRun_35 ?_
          refine lv_goto (tgt := 40) hx hb dX3_firstRun_36 (by decide) ?_
          exact w40 _ ih v0 v1 v2 v4 (v3 + 1) _ (lv_sub hl [0, 1, 2, 4] rfl) h
  unfold fX3_firstRun at h
  refine lv_iconst (v := 0) hx hb dX3_firstRun_0 (by decide) ?_
  refine lv_istore_n (lv' := [(3, .int (0)), (0, .int v0), (1, .int v1), (2, .int v2)]) hx hb dX3_firstRun_1 rfl hl (by decide) rfl (fun ls hl => ?_)
  refine lv_iconst (v := 0) hx hb dX3_firstRun_2 (by decide) ?_
  refine lv_istore (lv' := [(4, .int (0)), (3, .int (0)), (0, .int v0), (1, .int v1), (2, .int v2)]) hx hb dX3_firstRun_3 hl (by decide) rfl (fun ls hl => ?_)
  exact w5 FU v0 v1 v2 0 0 _ (lv_sub hl [2, 3, 4, 1, 0] rfl) h
-- X3_likeNeighbours
theorem dX3_likeNeighbours_0 : decode cX3_likeNeighbours 0 = .ok (.iconst 0, 1) := by decide +kernel
theorem dX3_likeNeighbours_1 : decode cX3_likeNeighbours 1 = .ok (.istore_n 2, 1) := by decide +kernel
theorem dX3_likeNeighbours_2 : decode cX3_likeNeighbours 2 = .ok (.iconst 1, 1) := by decide +kernel
theorem dX3_likeNeighbours_3 : decode cX3_likeNeighbours 3 = .ok (.istore_n 3, 1) := by decide +kernel
theorem dX3_likeNeighbours_4 : decode cX3_likeNeighbours 4 = .ok (.iload_n 3, 1) := by decide +kernel
theorem dX3_likeNeighbours_5 : decode cX3_likeNeighbours 5 = .ok (.iload_n 1, 1) := by decide +kernel
theorem dX3_likeNeighbours_6 : decode cX3_likeNeighbours 6 = .ok (.if_icmp .ge 27, 3) := by decide +kernel
theorem dX3_likeNeighbours_9 : decode cX3_likeNeighbours 9 = .ok (.iload_n 0, 1) := by decide +kernel
theorem dX3_likeNeighbours_10 : decode cX3_likeNeighbours 10 = .ok (.iload_n 3, 1) := by decide +kernel
theorem dX3_likeNeighbours_11 : decode cX3_likeNeighbours 11 = .ok (.invokestatic 15, 3) := by decide +kernel
theorem dX3_likeNeighbours_14 : decode cX3_likeNeighbours 14 = .ok (.iload_n 0, 1) := by decide +kernel
theorem dX3_likeNeighbours_15 : decode cX3_likeNeighbours 15 = .ok (.iload_n 3, 1) := by decide +kernel
theorem dX3_likeNeighbours_16 : decode cX3_likeNeighbours 16 = .ok (.iconst 1, 1) := by decide +kernel
theorem dX3_likeNeighbours_17 : decode cX3_likeNeighbours 17 = .ok (.isub, 1) := by decide +kernel
theorem dX3_likeNeighbours_18 : decode cX3_likeNeighbours 18 = .ok (.invokestatic 15, 3) := by decide +kernel
theorem dX3_likeNeighbours_21 : decode cX3_likeNeighbours 21 = .ok (.if_icmp .ne 6, 3) := by decide +kernel
theorem dX3_likeNeighbours_24 : decode cX3_likeNeighbours 24 = .ok (.iinc 2 1, 3) := by decide +kernel
theorem dX3_likeNeighbours_27 : decode cX3_likeNeighbours 27 = .ok (.iinc 3 1, 3) := by decide +kernel
theorem dX3_likeNeighbours_30 : decode cX3_likeNeighbours 30 = .ok (.goto (-26), 3) := by decide +kernel
theorem dX3_likeNeighbours_33 : decode cX3_likeNeighbours 33 = .ok (.iload_n 2, 1) := by decide +kernel
theorem dX3_likeNeighbours_34 : decode cX3_likeNeighbours 34 = .ok (.ireturn, 1) := by decide +kernel
noncomputable def fX3_likeNeighbours_27 (k4 : Int32 → Int32 → Int32 → Int32 → Option (Int32)) (v0 : Int32) (v1 : Int32) (v2 : Int32) (v3 : Int32) : Option (Int32) := k4 v0 v1 v2 (v3 + 1)
noncomputable def fX3_likeNeighbours_4  : Nat → Int32 → Int32 → Int32 → Int32 → Option (Int32)
  | 0, _, _, _, _ => none
  | n + 1, v0, v1, v2, v3 => (if v1 ≤ v3 then some v2 else (if (fX3_angleAt v0 v3) = (fX3_angleAt v0 (v3 - 1)) then fX3_likeNeighbours_27 (fX3_likeNeighbours_4 n) v0 v1 (v2 + 1) v3 else fX3_likeNeighbours_27 (fX3_likeNeighbours_4 n) v0 v1 v2 v3))
theorem fX3_likeNeighbours_4_z  (v0 : Int32) (v1 : Int32) (v2 : Int32) (v3 : Int32) : fX3_likeNeighbours_4  0 v0 v1 v2 v3 = none := rfl
theorem fX3_likeNeighbours_4_s  (n : Nat) (v0 : Int32) (v1 : Int32) (v2 : Int32) (v3 : Int32) : fX3_likeNeighbours_4  (n + 1) v0 v1 v2 v3 = (if v1 ≤ v3 then some v2 else (if (fX3_angleAt v0 v3) = (fX3_angleAt v0 (v3 - 1)) then fX3_likeNeighbours_27 (fX3_likeNeighbours_4 n) v0 v1 (v2 + 1) v3 else fX3_likeNeighbours_27 (fX3_likeNeighbours_4 n) v0 v1 v2 v3)) := rfl
noncomputable def fX3_likeNeighbours  (v0 : Int32) (v1 : Int32) : Option (Int32) := fX3_likeNeighbours_4 FU v0 v1 0 1
set_option maxHeartbeats 4000000 in
set_option maxRecDepth 100000 in
theorem ctX3_likeNeighbours (l : Launch) (g : GT) (v0 : Int32) (v1 : Int32) (o : Int32) (h : fX3_likeNeighbours v0 v1 = some o) : Met l yX3_likeNeighbours (Cond.code yX3_likeNeighbours cX3_likeNeighbours 4 (some .int) :: Tw) ⟨1, 0, 0, 21⟩ (va_Pc [.int v0, .int v1] (roB g [])) (vp_Si (fun x => x = o)) 0 0 (fun _ => False) := by
  refine ro_meti (by decide) (Nat.le_of_ble_eq_true rfl) (lv0 := [(0, .int v0), (1, .int v1)]) rfl ?_
  intro p e s m args below meth c ls Q cx hret hG hP hl
  have hx := cx.1
  have hb := cx.2.1
  have hG0 := hG
  have w27 : ∀ (k4 : Int32 → Int32 → Int32 → Int32 → Option (Int32)) (hk4 : ∀ (v0 : Int32) (v1 : Int32) (v2 : Int32) (v3 : Int32) (ls : Array Slot), lv_has ls 4 [(0, .int v0), (1, .int v1), (2, .int v2), (3, .int v3)] → k4 v0 v1 v2 v3 = some o → W p l e ⟨1, 0, 0, 21⟩ s m args below meth c s.heap [] 0 0 Q (F0 m 4 ls [])) (v0 : Int32) (v1 : Int32) (v2 : Int32) (v3 : Int32) (ls : Array Slot), lv_has ls 4 [(0, .int v0), (1, .int v1), (2, .int v2), (3, .int v3)] → fX3_likeNeighbours_27 k4 v0 v1 v2 v3 = some o → W p l e ⟨1, 0, 0, 21⟩ s m args below meth c s.heap [] 0 0 Q (F0 m 27 ls []) := by
    intro k4 hk4 v0 v1 v2 v3 ls hl h
    unfold fX3_likeNeighbours_27 at h
    refine lv_iinc (v := v3 + 1) (lv' := [(3, .int (v3 + 1)), (0, .int v0), (1, .int v1), (2, .int v2)]) hx hb dX3_likeNeighbours_27 hl (k := 3) rfl rfl (by decide) rfl (fun ls hl => ?_)
    refine lv_goto (tgt := 4) hx hb dX3_likeNeighbours_30 (by decide) ?_
    exact hk4 v0 v1 v2 (v3 + 1) _ (lv_sub hl [1, 2, 3, 0] rfl) h
  have w4 : ∀ (n : Nat) (v0 : Int32) (v1 : Int32) (v2 : Int32) (v3 : Int32) (ls : Array Slot), lv_has ls 4 [(0, .int v0), (1, .int v1), (2, .int v2), (3, .int v3)] → fX3_likeNeighbours_4  n v0 v1 v2 v3 = some o → W p l e ⟨1, 0, 0, 21⟩ s m args below meth c s.heap [] 0 0 Q (F0 m 4 ls []) := by
    intro n
    induction n with
    | zero => intro v0 v1 v2 v3 ls hl h; cases (fX3_likeNeighbours_4_z  v0 v1 v2 v3).symm.trans h
    | succ n ih =>
    intro v0 v1 v2 v3 ls hl h
    have h := (fX3_likeNeighbours_4_s  n v0 v1 v2 v3).symm.trans h
    refine lv_iload_n hx hb dX3_likeNeighbours_4 rfl (lv_at hl 3 rfl) ?_
    refine lv_iload_n hx hb dX3_likeNeighbours_5 rfl (lv_at hl 1 rfl) ?_
    refine lv_icmp_ge (tgt := 33) hx hb dX3_likeNeighbours_6 (by decide) (fun c1 => ?_) (fun c1 => ?_)
    · have h := itp c1 h
      refine lv_iload_n hx hb dX3_likeNeighbours_33 rfl (lv_at hl 2 rfl) ?_
      exact hret _ _ _ dX3_likeNeighbours_34 (Option.some.inj h)
    · have h := itn c1 h
      refine lv_iload_n hx hb dX3_likeNeighbours_9 rfl (lv_at hl 0 rfl) ?_
      refine lv_iload_n hx hb dX3_likeNeighbours_10 rfl (lv_at hl 3 rfl) ?_
      refine ro_i (runS (As := [.int v0, .int v3]) (rest := []) cx hl.1 (ctX3_angleAt l g v0 v3 (fX3_angleAt v0 v3) rfl) kmX3_angleAt ksX3_angleAt lm_X3_15 ⟨rfl, rfl⟩ ⟨Nat.le_of_ble_eq_true rfl, Nat.le_of_ble_eq_true rfl⟩ (roS hG (hP.sub [] rfl)) rfl rfl (Nat.le_of_ble_eq_true rfl) dX3_likeNeighbours_11 ⟨Nat.le_of_ble_eq_true rfl, Nat.le_of_ble_eq_true rfl⟩) ?_
      refine lv_iload_n hx hb dX3_likeNeighbours_14 rfl (lv_at hl 0 rfl) ?_
      refine lv_iload_n hx hb dX3_likeNeighbours_15 rfl (lv_at hl 3 rfl) ?_
      refine lv_iconst (v := 1) hx hb dX3_likeNeighbours_16 (by decide) ?_
      refine lv_isub hx hb dX3_likeNeighbours_17 ?_
      refine ro_i (runS (As := [.int v0, .int (v3 - 1)]) (rest := [.int (fX3_angleAt v0 v3)]) cx hl.1 (ctX3_angleAt l g v0 (v3 - 1) (fX3_angleAt v0 (v3 - 1)) rfl) kmX3_angleAt ksX3_angleAt lm_X3_15 ⟨rfl, rfl⟩ ⟨Nat.le_of_ble_eq_true rfl, Nat.le_of_ble_eq_true rfl⟩ (roS hG (hP.sub [] rfl)) rfl rfl (Nat.le_of_ble_eq_true rfl) dX3_likeNeighbours_18 ⟨Nat.le_of_ble_eq_true rfl, Nat.le_of_ble_eq_true rfl⟩) ?_
      refine lv_icmp_ne (tgt := 27) hx hb dX3_likeNeighbours_21 (by decide) (fun c2 => ?_) (fun c2 => ?_)
      · have h := itn c2 h
        exact w27 _ ih v0 v1 v2 v3 _ (lv_sub hl [0, 1, 2, 3] rfl) h
      · have h := itp c2 h
        refine lv_iinc (v := v2 + 1) (lv' := [(2, .int (v2 + 1)), (0, .int v0), (1, .int v1), (3, .int v3)]) hx hb dX3_likeNeighbours_24 hl (k := 2) rfl rfl (by decide) rfl (fun ls hl => ?_)
        exact w27 _ ih v0 v1 (v2 + 1) v3 _ (lv_sub hl [1, 2, 0, 3] rfl) h
  unfold fX3_likeNeighbours at h
  refine lv_iconst (v := 0) hx hb dX3_likeNeighbours_0 (by decide) ?_
  refine lv_istore_n (lv' := [(2, .int (0)), (0, .int v0), (1, .int v1)]) hx hb dX3_likeNeighbours_1 rfl hl (by decide) rfl (fun ls hl => ?_)
  refine lv_iconst (v := 1) hx hb dX3_likeNeighbours_2 (by decide) ?_
  refine lv_istore_n (lv' := [(3, .int (1)), (2, .int (0)), (0, .int v0), (1, .int v1)]) hx hb dX3_likeNeighbours_3 rfl hl (by decide) rfl (fun ls hl => ?_)
  exact w4 FU v0 v1 0 1 _ (lv_sub hl [2, 3, 1, 0] rfl) h
-- X3_unlikePlaces
theorem dX3_unlikePlaces_0 : decode cX3_unlikePlaces 0 = .ok (.iconst 0, 1) := by decide +kernel
theorem dX3_unlikePlaces_1 : decode cX3_unlikePlaces 1 = .ok (.istore_n 3, 1) := by decide +kernel
theorem dX3_unlikePlaces_2 : decode cX3_unlikePlaces 2 = .ok (.iconst 0, 1) := by decide +kernel
theorem dX3_unlikePlaces_3 : decode cX3_unlikePlaces 3 = .ok (.istore 4, 2) := by decide +kernel
theorem dX3_unlikePlaces_5 : decode cX3_unlikePlaces 5 = .ok (.iload 4, 2) := by decide +kernel
theorem dX3_unlikePlaces_7 : decode cX3_unlikePlaces 7 = .ok (.iload_n 2, 1) := by decide +kernel
theorem dX3_unlikePlaces_8 : decode cX3_unlikePlaces 8 = .ok (.if_icmp .ge 27, 3) := by decide +kernel
theorem dX3_unlikePlaces_11 : decode cX3_unlikePlaces 11 = .ok (.iload_n 0, 1) := by decide +kernel
theorem dX3_unlikePlaces_12 : decode cX3_unlikePlaces 12 = .ok (.iload 4, 2) := by decide +kernel
theorem dX3_unlikePlaces_14 : decode cX3_unlikePlaces 14 = .ok (.invokestatic 9, 3) := by decide +kernel
theorem dX3_unlikePlaces_17 : decode cX3_unlikePlaces 17 = .ok (.iload_n 1, 1) := by decide +kernel
theorem dX3_unlikePlaces_18 : decode cX3_unlikePlaces 18 = .ok (.iload 4, 2) := by decide +kernel
theorem dX3_unlikePlaces_20 : decode cX3_unlikePlaces 20 = .ok (.invokestatic 9, 3) := by decide +kernel
theorem dX3_unlikePlaces_23 : decode cX3_unlikePlaces 23 = .ok (.if_icmp .eq 6, 3) := by decide +kernel
theorem dX3_unlikePlaces_26 : decode cX3_unlikePlaces 26 = .ok (.iinc 3 1, 3) := by decide +kernel
theorem dX3_unlikePlaces_29 : decode cX3_unlikePlaces 29 = .ok (.iinc 4 1, 3) := by decide +kernel
theorem dX3_unlikePlaces_32 : decode cX3_unlikePlaces 32 = .ok (.goto (-27), 3) := by decide +kernel
theorem dX3_unlikePlaces_35 : decode cX3_unlikePlaces 35 = .ok (.iload_n 3, 1) := by decide +kernel
theorem dX3_unlikePlaces_36 : decode cX3_unlikePlaces 36 = .ok (.ireturn, 1) := by decide +kernel
noncomputable def fX3_unlikePlaces_29 (k5 : Int32 → Int32 → Int32 → Int32 → Int32 → Option (Int32)) (v0 : Int32) (v1 : Int32) (v2 : Int32) (v3 : Int32) (v4 : Int32) : Option (Int32) := k5 v0 v1 v2 v3 (v4 + 1)
noncomputable def fX3_unlikePlaces_5  : Nat → Int32 → Int32 → Int32 → Int32 → Int32 → Option (Int32)
  | 0, _, _, _, _, _ => none
  | n + 1, v0, v1, v2, v3, v4 => (if v2 ≤ v4 then some v3 else (if (fX3_typeAt v0 v4) = (fX3_typeAt v1 v4) then fX3_unlikePlaces_29 (fX3_unlikePlaces_5 n) v0 v1 v2 v3 v4 else fX3_unlikePlaces_29 (fX3_unlikePlaces_5 n) v0 v1 v2 (v3 + 1) v4))
theorem fX3_unlikePlaces_5_z  (v0 : Int32) (v1 : Int32) (v2 : Int32) (v3 : Int32) (v4 : Int32) : fX3_unlikePlaces_5  0 v0 v1 v2 v3 v4 = none := rfl
theorem fX3_unlikePlaces_5_s  (n : Nat) (v0 : Int32) (v1 : Int32) (v2 : Int32) (v3 : Int32) (v4 : Int32) : fX3_unlikePlaces_5  (n + 1) v0 v1 v2 v3 v4 = (if v2 ≤ v4 then some v3 else (if (fX3_typeAt v0 v4) = (fX3_typeAt v1 v4) then fX3_unlikePlaces_29 (fX3_unlikePlaces_5 n) v0 v1 v2 v3 v4 else fX3_unlikePlaces_29 (fX3_unlikePlaces_5 n) v0 v1 v2 (v3 + 1) v4)) := rfl
noncomputable def fX3_unlikePlaces  (v0 : Int32) (v1 : Int32) (v2 : Int32) : Option (Int32) := fX3_unlikePlaces_5 FU v0 v1 v2 0 0
set_option maxHeartbeats 4000000 in
set_option maxRecDepth 100000 in
theorem ctX3_unlikePlaces (l : Launch) (g : GT) (v0 : Int32) (v1 : Int32) (v2 : Int32) (o : Int32) (h : fX3_unlikePlaces v0 v1 v2 = some o) : Met l yX3_unlikePlaces (Cond.code yX3_unlikePlaces cX3_unlikePlaces 5 (some .int) :: Tw) ⟨1, 0, 0, 21⟩ (va_Pc [.int v0, .int v1, .int v2] (roB g [])) (vp_Si (fun x => x = o)) 0 0 (fun _ => False) := by
  refine ro_meti (by decide) (Nat.le_of_ble_eq_true rfl) (lv0 := [(0, .int v0), (1, .int v1), (2, .int v2)]) rfl ?_
  intro p e s m args below meth c ls Q cx hret hG hP hl
  have hx := cx.1
  have hb := cx.2.1
  have hG0 := hG
  have w29 : ∀ (k5 : Int32 → Int32 → Int32 → Int32 → Int32 → Option (Int32)) (hk5 : ∀ (v0 : Int32) (v1 : Int32) (v2 : Int32) (v3 : Int32) (v4 : Int32) (ls : Array Slot), lv_has ls 5 [(0, .int v0), (1, .int v1), (2, .int v2), (3, .int v3), (4, .int v4)] → k5 v0 v1 v2 v3 v4 = some o → W p l e ⟨1, 0, 0, 21⟩ s m args below meth c s.heap [] 0 0 Q (F0 m 5 ls [])) (v0 : Int32) (v1 : Int32) (v2 : Int32) (v3 : Int32) (v4 : Int32) (ls : Array Slot), lv_has ls 5 [(0, .int v0), (1, .int v1), (2, .int v2), (3, .int v3), (4, .int v4)] → fX3_unlikePlaces_29 k5 v0 v1 v2 v3 v4 = some o → W p l e ⟨1, 0, 0, 21⟩ s m args below meth c s.heap [] 0 0 Q (F0 m 29 ls []) := by
    intro k5 hk5 v0 v1 v2 v3 v4 ls hl h
    unfold fX3_unlikePlaces_29 at h
    refine lv_iinc (v := v4 + 1) (lv' := [(4, .int (v4 + 1)), (0, .int v0), (1, .int v1), (2, .int v2), (3, .int v3)]) hx hb dX3_unlikePlaces_29 hl (k := 4) rfl rfl (by decide) rfl (fun ls hl => ?_)
    refine lv_goto (tgt := 5) hx hb dX3_unlikePlaces_32 (by decide) ?_
    exact hk5 v0 v1 v2 v3 (v4 + 1) _ (lv_sub hl [1, 2, 3, 4, 0] rfl) h
  have w5 : ∀ (n : Nat) (v0 : Int32) (v1 : Int32) (v2 : Int32) (v3 : Int32) (v4 : Int32) (ls : Array Slot), lv_has ls 5 [(0, .int v0), (1, .int v1), (2, .int v2), (3, .int v3), (4, .int v4)] → fX3_unlikePlaces_5  n v0 v1 v2 v3 v4 = some o → W p l e ⟨1, 0, 0, 21⟩ s m args below meth c s.heap [] 0 0 Q (F0 m 5 ls []) := by
    intro n
    induction n with
    | zero => intro v0 v1 v2 v3 v4 ls hl h; cases (fX3_unlikePlaces_5_z  v0 v1 v2 v3 v4).symm.trans h
    | succ n ih =>
    intro v0 v1 v2 v3 v4 ls hl h
    have h := (fX3_unlikePlaces_5_s  n v0 v1 v2 v3 v4).symm.trans h
    refine lv_iload hx hb dX3_unlikePlaces_5 (lv_at hl 4 rfl) ?_
    refine lv_iload_n hx hb dX3_unlikePlaces_7 rfl (lv_at hl 2 rfl) ?_
    refine lv_icmp_ge (tgt := 35) hx hb dX3_unlikePlaces_8 (by decide) (fun c1 => ?_) (fun c1 => ?_)
    · have h := itp c1 h
      refine lv_iload_n hx hb dX3_unlikePlaces_35 rfl (lv_at hl 3 rfl) ?_
      exact hret _ _ _ dX3_unlikePlaces_36 (Option.some.inj h)
    · have h := itn c1 h
      refine lv_iload_n hx hb dX3_unlikePlaces_11 rfl (lv_at hl 0 rfl) ?_
      refine lv_iload hx hb dX3_unlikePlaces_12 (lv_at hl 4 rfl) ?_
      refine ro_i (runS (As := [.int v0, .int v4]) (rest := []) cx hl.1 (ctX3_typeAt l g v0 v4 (fX3_typeAt v0 v4) rfl) kmX3_typeAt ksX3_typeAt lm_X3_9 ⟨rfl, rfl⟩ ⟨Nat.le_of_ble_eq_true rfl, Nat.le_of_ble_eq_true rfl⟩ (roS hG (hP.sub [] rfl)) rfl rfl (Nat.le_of_ble_eq_true rfl) dX3_unlikePlaces_14 ⟨Nat.le_of_ble_eq_true rfl, Nat.le_of_ble_eq_true rfl⟩) ?_
      refine lv_iload_n hx hb dX3_unlikePlaces_17 rfl (lv_at hl 1 rfl) ?_
      refine lv_iload hx hb dX3_unlikePlaces_18 (lv_at hl 4 rfl) ?_
      refine ro_i (runS (As := [.int v1, .int v4]) (rest := [.int (fX3_typeAt v0 v4)]) cx hl.1 (ctX3_typeAt l g v1 v4 (fX3_typeAt v1 v4) rfl) kmX3_typeAt ksX3_typeAt lm_X3_9 ⟨rfl, rfl⟩ ⟨Nat.le_of_ble_eq_true rfl, Nat.le_of_ble_eq_true rfl⟩ (roS hG (hP.sub [] rfl)) rfl rfl (Nat.le_of_ble_eq_true rfl) dX3_unlikePlaces_20 ⟨Nat.le_of_ble_eq_true rfl, Nat.le_of_ble_eq_true rfl⟩) ?_
      refine lv_icmp_eq (tgt := 29) hx hb dX3_unlikePlaces_23 (by decide) (fun c2 => ?_) (fun c2 => ?_)
      · have h := itp c2 h
        exact w29 _ ih v0 v1 v2 v3 v4 _ (lv_sub hl [0, 1, 2, 3, 4] rfl) h
      · have h := itn c2 h
        refine lv_iinc (v := v3 + 1) (lv' := [(3, .int (v3 + 1)), (0, .int v0), (1, .int v1), (2, .int v2), (4, .int v4)]) hx hb dX3_unlikePlaces_26 hl (k := 3) rfl rfl (by decide) rfl (fun ls hl => ?_)
        exact w29 _ ih v0 v1 v2 (v3 + 1) v4 _ (lv_sub hl [1, 2, 3, 0, 4] rfl) h
  unfold fX3_unlikePlaces at h
  refine lv_iconst (v := 0) hx hb dX3_unlikePlaces_0 (by decide) ?_
  refine lv_istore_n (lv' := [(3, .int (0)), (0, .int v0), (1, .int v1), (2, .int v2)]) hx hb dX3_unlikePlaces_1 rfl hl (by decide) rfl (fun ls hl => ?_)
  refine lv_iconst (v := 0) hx hb dX3_unlikePlaces_2 (by decide) ?_
  refine lv_istore (lv' := [(4, .int (0)), (3, .int (0)), (0, .int v0), (1, .int v1), (2, .int v2)]) hx hb dX3_unlikePlaces_3 hl (by decide) rfl (fun ls hl => ?_)
  exact w5 FU v0 v1 v2 0 0 _ (lv_sub hl [2, 3, 4, 1, 0] rfl) h
-- X3_lowestLeft
theorem dX3_lowestLeft_0 : decode cX3_lowestLeft 0 = .ok (.iconst 0, 1) := by decide +kernel
theorem dX3_lowestLeft_1 : decode cX3_lowestLeft 1 = .ok (.istore 4, 2) := by decide +kernel
theorem dX3_lowestLeft_3 : decode cX3_lowestLeft 3 = .ok (.iload 4, 2) := by decide +kernel
theorem dX3_lowestLeft_5 : decode cX3_lowestLeft 5 = .ok (.iload_n 1, 1) := by decide +kernel
theorem dX3_lowestLeft_6 : decode cX3_lowestLeft 6 = .ok (.if_icmp .ge 31, 3) := by decide +kernel
theorem dX3_lowestLeft_9 : decode cX3_lowestLeft 9 = .ok (.iload_n 2, 1) := by decide +kernel
theorem dX3_lowestLeft_10 : decode cX3_lowestLeft 10 = .ok (.iload 4, 2) := by decide +kernel
theorem dX3_lowestLeft_12 : decode cX3_lowestLeft 12 = .ok (.ishr, 1) := by decide +kernel
theorem dX3_lowestLeft_13 : decode cX3_lowestLeft 13 = .ok (.iconst 1, 1) := by decide +kernel
theorem dX3_lowestLeft_14 : decode cX3_lowestLeft 14 = .ok (.iand, 1) := by decide +kernel
theorem dX3_lowestLeft_15 : decode cX3_lowestLeft 15 = .ok (.ifCond .ne 16, 3) := by decide +kernel
theorem dX3_lowestLeft_18 : decode cX3_lowestLeft 18 = .ok (.iload_n 0, 1) := by decide +kernel
theorem dX3_lowestLeft_19 : decode cX3_lowestLeft 19 = .ok (.iload 4, 2) := by decide +kernel
theorem dX3_lowestLeft_21 : decode cX3_lowestLeft 21 = .ok (.invokestatic 9, 3) := by decide +kernel
theorem dX3_lowestLeft_24 : decode cX3_lowestLeft 24 = .ok (.iload_n 3, 1) := by decide +kernel
theorem dX3_lowestLeft_25 : decode cX3_lowestLeft 25 = .ok (.if_icmp .ne 6, 3) := by decide +kernel
theorem dX3_lowestLeft_28 : decode cX3_lowestLeft 28 = .ok (.iload 4, 2) := by decide +kernel
theorem dX3_lowestLeft_30 : decode cX3_lowestLeft 30 = .ok (.ireturn, 1) := by decide +kernel
theorem dX3_lowestLeft_31 : decode cX3_lowestLeft 31 = .ok (.iinc 4 1, 3) := by decide +kernel
theorem dX3_lowestLeft_34 : decode cX3_lowestLeft 34 = .ok (.goto (-31), 3) := by decide +kernel
theorem dX3_lowestLeft_37 : decode cX3_lowestLeft 37 = .ok (.iconst 0, 1) := by decide +kernel
theorem dX3_lowestLeft_38 : decode cX3_lowestLeft 38 = .ok (.ireturn, 1) := by decide +kernel
noncomputable def fX3_lowestLeft_31 (k3 : Int32 → Int32 → Int32 → Int32 → Int32 → Option (Int32)) (v0 : Int32) (v1 : Int32) (v2 : Int32) (v3 : Int32) (v4 : Int32) : Option (Int32) := k3 v0 v1 v2 v3 (v4 + 1)
noncomputable def fX3_lowestLeft_3  : Nat → Int32 → Int32 → Int32 → Int32 → Int32 → Option (Int32)
  | 0, _, _, _, _, _ => none
  | n + 1, v0, v1, v2, v3, v4 => (if v1 ≤ v4 then some (0) else (if ((v2 >>> (v4 &&& 31)) &&& 1) = 0 then (if (fX3_typeAt v0 v4) = v3 then some v4 else fX3_lowestLeft_31 (fX3_lowestLeft_3 n) v0 v1 v2 v3 v4) else fX3_lowestLeft_31 (fX3_lowestLeft_3 n) v0 v1 v2 v3 v4))
theorem fX3_lowestLeft_3_z  (v0 : Int32) (v1 : Int32) (v2 : Int32) (v3 : Int32) (v4 : Int32) : fX3_lowestLeft_3  0 v0 v1 v2 v3 v4 = none := rfl
theorem fX3_lowestLeft_3_s  (n : Nat) (v0 : Int32) (v1 : Int32) (v2 : Int32) (v3 : Int32) (v4 : Int32) : fX3_lowestLeft_3  (n + 1) v0 v1 v2 v3 v4 = (if v1 ≤ v4 then some (0) else (if ((v2 >>> (v4 &&& 31)) &&& 1) = 0 then (if (fX3_typeAt v0 v4) = v3 then some v4 else fX3_lowestLeft_31 (fX3_lowestLeft_3 n) v0 v1 v2 v3 v4) else fX3_lowestLeft_31 (fX3_lowestLeft_3 n) v0 v1 v2 v3 v4)) := rfl
noncomputable def fX3_lowestLeft  (v0 : Int32) (v1 : Int32) (v2 : Int32) (v3 : Int32) : Option (Int32) := fX3_lowestLeft_3 FU v0 v1 v2 v3 0
set_option maxHeartbeats 4000000 in
set_option maxRecDepth 100000 in
theorem ctX3_lowestLeft (l : Launch) (g : GT) (v0 : Int32) (v1 : Int32) (v2 : Int32) (v3 : Int32) (o : Int32) (h : fX3_lowestLeft v0 v1 v2 v3 = some o) : Met l yX3_lowestLeft (Cond.code yX3_lowestLeft cX3_lowestLeft 5 (some .int) :: Tw) ⟨1, 0, 0, 21⟩ (va_Pc [.int v0, .int v1, .int v2, .int v3] (roB g [])) (vp_Si (fun x => x = o)) 0 0 (fun _ => False) := by
  refine ro_meti (by decide) (Nat.le_of_ble_eq_true rfl) (lv0 := [(0, .int v0), (1, .int v1), (2, .int v2), (3, .int v3)]) rfl ?_
  intro p e s m args below meth c ls Q cx hret hG hP hl
  have hx := cx.1
  have hb := cx.2.1
  have hG0 := hG
  have w31 : ∀ (k3 : Int32 → Int32 → Int32 → Int32 → Int32 → Option (Int32)) (hk3 : ∀ (v0 : Int32) (v1 : Int32) (v2 : Int32) (v3 : Int32) (v4 : Int32) (ls : Array Slot), lv_has ls 5 [(0, .int v0), (1, .int v1), (2, .int v2), (3, .int v3), (4, .int v4)] → k3 v0 v1 v2 v3 v4 = some o → W p l e ⟨1, 0, 0, 21⟩ s m args below meth c s.heap [] 0 0 Q (F0 m 3 ls [])) (v0 : Int32) (v1 : Int32) (v2 : Int32) (v3 : Int32) (v4 : Int32) (ls : Array Slot), lv_has ls 5 [(0, .int v0), (1, .int v1), (2, .int v2), (3, .int v3), (4, .int v4)] → fX3_lowestLeft_31 k3 v0 v1 v2 v3 v4 = some o → W p l e ⟨1, 0, 0, 21⟩ s m args below meth c s.heap [] 0 0 Q (F0 m 31 ls []) := by
    intro k3 hk3 v0 v1 v2 v3 v4 ls hl h
    unfold fX3_lowestLeft_31 at h
    refine lv_iinc (v := v4 + 1) (lv' := [(4, .int (v4 + 1)), (0, .int v0), (1, .int v1), (2, .int v2), (3, .int v3)]) hx hb dX3_lowestLeft_31 hl (k := 4) rfl rfl (by decide) rfl (fun ls hl => ?_)
    refine lv_goto (tgt := 3) hx hb dX3_lowestLeft_34 (by decide) ?_
    exact hk3 v0 v1 v2 v3 (v4 + 1) _ (lv_sub hl [1, 2, 3, 4, 0] rfl) h
  have w3 : ∀ (n : Nat) (v0 : Int32) (v1 : Int32) (v2 : Int32) (v3 : Int32) (v4 : Int32) (ls : Array Slot), lv_has ls 5 [(0, .int v0), (1, .int v1), (2, .int v2), (3, .int v3), (4, .int v4)] → fX3_lowestLeft_3  n v0 v1 v2 v3 v4 = some o → W p l e ⟨1, 0, 0, 21⟩ s m args below meth c s.heap [] 0 0 Q (F0 m 3 ls []) := by
    intro n
    induction n with
    | zero => intro v0 v1 v2 v3 v4 ls hl h; cases (fX3_lowestLeft_3_z  v0 v1 v2 v3 v4).symm.trans h
    | succ n ih =>
    intro v0 v1 v2 v3 v4 ls hl h
    have h := (fX3_lowestLeft_3_s  n v0 v1 v2 v3 v4).symm.trans h
    refine lv_iload hx hb dX3_lowestLeft_3 (lv_at hl 4 rfl) ?_
    refine lv_iload_n hx hb dX3_lowestLeft_5 rfl (lv_at hl 1 rfl) ?_
    refine lv_icmp_ge (tgt := 37) hx hb dX3_lowestLeft_6 (by decide) (fun c1 => ?_) (fun c1 => ?_)
    · have h := itp c1 h
      refine lv_iconst (v := 0) hx hb dX3_lowestLeft_37 (by decide) ?_
      exact hret _ _ _ dX3_lowestLeft_38 (Option.some.inj h)
    · have h := itn c1 h
      refine lv_iload_n hx hb dX3_lowestLeft_9 rfl (lv_at hl 2 rfl) ?_
      refine lv_iload hx hb dX3_lowestLeft_10 (lv_at hl 4 rfl) ?_
      refine lv_ishr hx hb dX3_lowestLeft_12 ?_
      refine lv_iconst (v := 1) hx hb dX3_lowestLeft_13 (by decide) ?_
      refine lv_iand hx hb dX3_lowestLeft_14 ?_
      refine lv_if_ne (tgt := 31) hx hb dX3_lowestLeft_15 (by decide) (fun c2 => ?_) (fun c2 => ?_)
      · have h := itn c2 h
        exact w31 _ ih v0 v1 v2 v3 v4 _ (lv_sub hl [0, 1, 2, 3, 4] rfl) h
      · have h := itp c2 h
        refine lv_iload_n hx hb dX3_lowestLeft_18 rfl (lv_at hl 0 rfl) ?_
        refine lv_iload hx hb dX3_lowestLeft_19 (lv_at hl 4 rfl) ?_
        refine ro_i (runS (As := [.int v0, .int v4]) (rest := []) cx hl.1 (ctX3_typeAt l g v0 v4 (fX3_typeAt v0 v4) rfl) kmX3_typeAt ksX3_typeAt lm_X3_9 ⟨rfl, rfl⟩ ⟨Nat.le_of_ble_eq_true rfl, Nat.le_of_ble_eq_true rfl⟩ (roS hG (hP.sub [] rfl)) rfl rfl (Nat.le_of_ble_eq_true rfl) dX3_lowestLeft_21 ⟨Nat.le_of_ble_eq_true rfl, Nat.le_of_ble_eq_true rfl⟩) ?_
        refine lv_iload_n hx hb dX3_lowestLeft_24 rfl (lv_at hl 3 rfl) ?_
        refine lv_icmp_ne (tgt := 31) hx hb dX3_lowestLeft_25 (by decide) (fun c3 => ?_) (fun c3 => ?_)
        · have h := itn c3 h
          exact w31 _ ih v0 v1 v2 v3 v4 _ (lv_sub hl [0, 1, 2, 3, 4] rfl) h
        · have h := itp c3 h
          refine lv_iload hx hb dX3_lowestLeft_28 (lv_at hl 4 rfl) ?_
          exact hret _ _ _ dX3_lowestLeft_30 (Option.some.inj h)
  unfold fX3_lowestLeft at h
  refine lv_iconst (v := 0) hx hb dX3_lowestLeft_0 (by decide) ?_
  refine lv_istore (lv' := [(4, .int (0)), (0, .int v0), (1, .int v1), (2, .int v2), (3, .int v3)]) hx hb dX3_lowestLeft_1 hl (by decide) rfl (fun ls hl => ?_)
  exact w3 FU v0 v1 v2 v3 0 _ (lv_sub hl [1, 2, 3, 4, 0] rfl) h
-- X3_neighbourExchanges
theorem dX3_neighbourExchanges_0 : decode cX3_neighbourExchanges 0 = .ok (.iconst 0, 1) := by decide +kernel
theorem dX3_neighbourExchanges_1 : decode cX3_neighbourExchanges 1 = .ok (.istore_n 3, 1) := by decide +kernel
theorem dX3_neighbourExchanges_2 : decode cX3_neighbourExchanges 2 = .ok (.iconst 0, 1) := by decide +kernel
theorem dX3_neighbourExchanges_3 : decode cX3_neighbourExchanges 3 = .ok (.istore 4, 2) := by decide +kernel
theorem dX3_neighbourExchanges_5 : decode cX3_neighbourExchanges 5 = .ok (.iconst 0, 1) := by decide +kernel
theorem dX3_neighbourExchanges_6 : decode cX3_neighbourExchanges 6 = .ok (.istore 5, 2) := by decide +kernel
theorem dX3_neighbourExchanges_8 : decode cX3_neighbourExchanges 8 = .ok (.iload 5, 2) := by decide +kernel
theorem dX3_neighbourExchanges_10 : decode cX3_neighbourExchanges 10 = .ok (.iload_n 2, 1) := by decide +kernel
theorem dX3_neighbourExchanges_11 : decode cX3_neighbourExchanges 11 = .ok (.if_icmp .ge 51, 3) := by decide +kernel
theorem dX3_neighbourExchanges_14 : decode cX3_neighbourExchanges 14 = .ok (.iload_n 0, 1) := by decide +kernel
theorem dX3_neighbourExchanges_15 : decode cX3_neighbourExchanges 15 = .ok (.iload_n 2, 1) := by decide +kernel
theorem dX3_neighbourExchanges_16 : decode cX3_neighbourExchanges 16 = .ok (.iload 4, 2) := by decide +kernel
theorem dX3_neighbourExchanges_18 : decode cX3_neighbourExchanges 18 = .ok (.iload_n 1, 1) := by decide +kernel
theorem dX3_neighbourExchanges_19 : decode cX3_neighbourExchanges 19 = .ok (.iload 5, 2) := by decide +kernel
theorem dX3_neighbourExchanges_21 : decode cX3_neighbourExchanges 21 = .ok (.invokestatic 9, 3) := by decide +kernel
theorem dX3_neighbourExchanges_24 : decode cX3_neighbourExchanges 24 = .ok (.invokestatic 23, 3) := by decide +kernel
theorem dX3_neighbourExchanges_27 : decode cX3_neighbourExchanges 27 = .ok (.istore 6, 2) := by decide +kernel
theorem dX3_neighbourExchanges_29 : decode cX3_neighbourExchanges 29 = .ok (.iload_n 3, 1) := by decide +kernel
theorem dX3_neighbourExchanges_30 : decode cX3_neighbourExchanges 30 = .ok (.iload 6, 2) := by decide +kernel
theorem dX3_neighbourExchanges_32 : decode cX3_neighbourExchanges 32 = .ok (.iload 4, 2) := by decide +kernel
theorem dX3_neighbourExchanges_34 : decode cX3_neighbourExchanges 34 = .ok (.iconst 1, 1) := by decide +kernel
theorem dX3_neighbourExchanges_35 : decode cX3_neighbourExchanges 35 = .ok (.iload 6, 2) := by decide +kernel
theorem dX3_neighbourExchanges_37 : decode cX3_neighbourExchanges 37 = .ok (.ishl, 1) := by decide +kernel
theorem dX3_neighbourExchanges_38 : decode cX3_neighbourExchanges 38 = .ok (.iconst 1, 1) := by decide +kernel
theorem dX3_neighbourExchanges_39 : decode cX3_neighbourExchanges 39 = .ok (.isub, 1) := by decide +kernel
theorem dX3_neighbourExchanges_40 : decode cX3_neighbourExchanges 40 = .ok (.iand, 1) := by decide +kernel
theorem dX3_neighbourExchanges_41 : decode cX3_neighbourExchanges 41 = .ok (.invokestatic 27, 3) := by decide +kernel
theorem dX3_neighbourExchanges_44 : decode cX3_neighbourExchanges 44 = .ok (.isub, 1) := by decide +kernel
theorem dX3_neighbourExchanges_45 : decode cX3_neighbourExchanges 45 = .ok (.iadd, 1) := by decide +kernel
theorem dX3_neighbourExchanges_46 : decode cX3_neighbourExchanges 46 = .ok (.istore_n 3, 1) := by decide +kernel
theorem dX3_neighbourExchanges_47 : decode cX3_neighbourExchanges 47 = .ok (.iload 4, 2) := by decide +kernel
theorem dX3_neighbourExchanges_49 : decode cX3_neighbourExchanges 49 = .ok (.iconst 1, 1) := by decide +kernel
theorem dX3_neighbourExchanges_50 : decode cX3_neighbourExchanges 50 = .ok (.iload 6, 2) := by decide +kernel
theorem dX3_neighbourExchanges_52 : decode cX3_neighbourExchanges 52 = .ok (.ishl, 1) := by decide +kernel
theorem dX3_neighbourExchanges_53 : decode cX3_neighbourExchanges 53 = .ok (.ior, 1) := by decide +kernel
theorem dX3_neighbourExchanges_54 : decode cX3_neighbourExchanges 54 = .ok (.istore 4, 2) := by decide +kernel
theorem dX3_neighbourExchanges_56 : decode cX3_neighbourExchanges 56 = .ok (.iinc 5 1, 3) := by decide +kernel
theorem dX3_neighbourExchanges_59 : decode cX3_neighbourExchanges 59 = .ok (.goto (-51), 3) := by decide +kernel
theorem dX3_neighbourExchanges_62 : decode cX3_neighbourExchanges 62 = .ok (.iload_n 3, 1) := by decide +kernel
theorem dX3_neighbourExchanges_63 : decode cX3_neighbourExchanges 63 = .ok (.ireturn, 1) := by decide +kernel
noncomputable def fX3_neighbourExchanges_8  : Nat → Int32 → Int32 → Int32 → Int32 → Int32 → Int32 → Option (Int32)
  | 0, _, _, _, _, _, _ => none
  | n + 1, v0, v1, v2, v3, v4, v5 => (if v2 ≤ v5 then some v3 else (fX3_lowestLeft v0 v2 v4 (fX3_typeAt v1 v5)).bind fun r2 => fX3_neighbourExchanges_8 n v0 v1 v2 (v3 + (r2 - (fJ6_bitCount_0f7a4 (v4 &&& ((1 <<< (r2 &&& 31)) - 1))))) (v4 ||| (1 <<< (r2 &&& 31))) (v5 + 1))
theorem fX3_neighbourExchanges_8_z  (v0 : Int32) (v1 : Int32) (v2 : Int32) (v3 : Int32) (v4 : Int32) (v5 : Int32) : fX3_neighbourExchanges_8  0 v0 v1 v2 v3 v4 v5 = none := rfl
theorem fX3_neighbourExchanges_8_s  (n : Nat) (v0 : Int32) (v1 : Int32) (v2 : Int32) (v3 : Int32) (v4 : Int32) (v5 : Int32) : fX3_neighbourExchanges_8  (n + 1) v0 v1 v2 v3 v4 v5 = (if v2 ≤ v5 then some v3 else (fX3_lowestLeft v0 v2 v4 (fX3_typeAt v1 v5)).bind fun r2 => fX3_neighbourExchanges_8 n v0 v1 v2 (v3 + (r2 - (fJ6_bitCount_0f7a4 (v4 &&& ((1 <<< (r2 &&& 31)) - 1))))) (v4 ||| (1 <<< (r2 &&& 31))) (v5 + 1)) := rfl
noncomputable def fX3_neighbourExchanges  (v0 : Int32) (v1 : Int32) (v2 : Int32) : Option (Int32) := fX3_neighbourExchanges_8 FU v0 v1 v2 0 0 0
set_option maxHeartbeats 4000000 in
set_option maxRecDepth 100000 in
theorem ctX3_neighbourExchanges (l : Launch) (g : GT) (v0 : Int32) (v1 : Int32) (v2 : Int32) (o : Int32) (h : fX3_neighbourExchanges v0 v1 v2 = some o) : Met l yX3_neighbourExchanges (Cond.code yX3_neighbourExchanges cX3_neighbourExchanges 7 (some .int) :: Tw) ⟨2, 0, 0, 45⟩ (va_Pc [.int v0, .int v1, .int v2] (roB g [])) (vp_Si (fun x => x = o)) 0 0 (fun _ => False) := by
  refine ro_meti (by decide) (Nat.le_of_ble_eq_true rfl) (lv0 := [(0, .int v0), (1, .int v1), (2, .int v2)]) rfl ?_
  intro p e s m args below meth c ls Q cx hret hG hP hl
  have hx := cx.1
  have hb := cx.2.1
  have hG0 := hG
  have w8 : ∀ (n : Nat) (v0 : Int32) (v1 : Int32) (v2 : Int32) (v3 : Int32) (v4 : Int32) (v5 : Int32) (ls : Array Slot), lv_has ls 7 [(0, .int v0), (1, .int v1), (2, .int v2), (3, .int v3), (4, .int v4), (5, .int v5)] → fX3_neighbourExchanges_8  n v0 v1 v2 v3 v4 v5 = some o → W p l e ⟨2, 0, 0, 45⟩ s m args below meth c s.heap [] 0 0 Q (F0 m 8 ls []) := by
    intro n
    induction n with
    | zero => intro v0 v1 v2 v3 v4 v5 ls hl h; cases (fX3_neighbourExchanges_8_z  v0 v1 v2 v3 v4 v5).symm.trans h
    | succ n ih =>
    intro v0 v1 v2 v3 v4 v5 ls hl h
    have h := (fX3_neighbourExchanges_8_s  n v0 v1 v2 v3 v4 v5).symm.trans h
    refine lv_iload hx hb dX3_neighbourExchanges_8 (lv_at hl 5 rfl) ?_
    refine lv_iload_n hx hb dX3_neighbourExchanges_10 rfl (lv_at hl 2 rfl) ?_
    refine lv_icmp_ge (tgt := 62) hx hb dX3_neighbourExchanges_11 (by decide) (fun c1 => ?_) (fun c1 => ?_)
    · have h := itp c1 h
      refine lv_iload_n hx hb dX3_neighbourExchanges_62 rfl (lv_at hl 3 rfl) ?_
      exact hret _ _ _ dX3_neighbourExchanges_63 (Option.some.inj h)
    · have h := itn c1 h
      refine lv_iload_n hx hb dX3_neighbourExchanges_14 rfl (lv_at hl 0 rfl) ?_
      refine lv_iload_n hx hb dX3_neighbourExchanges_15 rfl (lv_at hl 2 rfl) ?_
      refine lv_iload hx hb dX3_neighbourExchanges_16 (lv_at hl 4 rfl) ?_
      refine lv_iload_n hx hb dX3_neighbourExchanges_18 rfl (lv_at hl 1 rfl) ?_
      refine lv_iload hx hb dX3_neighbourExchanges_19 (lv_at hl 5 rfl) ?_
      refine ro_i (runS (As := [.int v1, .int v5]) (rest := [.int v4, .int v2, .int v0]) cx hl.1 (ctX3_typeAt l g v1 v5 (fX3_typeAt v1 v5) rfl) kmX3_typeAt ksX3_typeAt lm_X3_9 ⟨rfl, rfl⟩ ⟨Nat.le_of_ble_eq_true rfl, Nat.le_of_ble_eq_true rfl⟩ (roS hG (hP.sub [] rfl)) rfl rfl (Nat.le_of_ble_eq_true rfl) dX3_neighbourExchanges_21 ⟨Nat.le_of_ble_eq_true rfl, Nat.le_of_ble_eq_true rfl⟩) ?_
      obtain ⟨r2, hr3, h⟩ := bnd h
      refine ro_i (runS (As := [.int v0, .int v2, .int v4, .int (fX3_typeAt v1 v5)]) (rest := []) cx hl.1 (ctX3_lowestLeft l g v0 v2 v4 (fX3_typeAt v1 v5) r2 hr3) kmX3_lowestLeft ksX3_lowestLeft lm_X3_23 ⟨rfl, rfl⟩ ⟨Nat.le_of_ble_eq_true rfl, Nat.le_of_ble_eq_true rfl⟩ (roS hG (hP.sub [] rfl)) rfl rfl (Nat.le_of_ble_eq_true rfl) dX3_neighbourExchanges_24 ⟨Nat.le_of_ble_eq_true rfl, Nat.le_of_ble_eq_true rfl⟩) ?_
      refine lv_istore (lv' := [(6, .int r2), (0, .int v0), (1, .int v1), (2, .int v2), (3, .int v3), (4, .int v4), (5, .int v5)]) hx hb dX3_neighbourExchanges_27 hl (by decide) rfl (fun ls hl => ?_)
      refine lv_iload_n hx hb dX3_neighbourExchanges_29 rfl (lv_at hl 4 rfl) ?_
      refine lv_iload hx hb dX3_neighbourExchanges_30 (lv_at hl 0 rfl) ?_
      refine lv_iload hx hb dX3_neighbourExchanges_32 (lv_at hl 5 rfl) ?_
      refine lv_iconst (v := 1) hx hb dX3_neighbourExchanges_34 (by decide) ?_
      refine lv_iload hx hb dX3_neighbourExchanges_35 (lv_at hl 0 rfl) ?_
      refine lv_ishl hx hb dX3_neighbourExchanges_37 ?_
      refine lv_iconst (v := 1) hx hb dX3_neighbourExchanges_38 (by decide) ?_
      refine lv_isub hx hb dX3_neighbourExchanges_39 ?_
      refine lv_iand hx hb dX3_neighbourExchanges_40 ?_
      refine ro_i (runS (As := [.int (v4 &&& ((1 <<< (r2 &&& 31)) - 1))]) (rest := [.int r2, .int v3]) cx hl.1 (ctJ6_bitCount_0f7a4 l g (v4 &&& ((1 <<< (r2 &&& 31)) - 1)) (fJ6_bitCount_0f7a4 (v4 &&& ((1 <<< (r2 &&& 31)) - 1))) rfl) kmJ6_bitCount_0f7a4 ksJ6_bitCount_0f7a4 lm_X3_27 ⟨rfl, rfl⟩ ⟨Nat.le_of_ble_eq_true rfl, Nat.le_of_ble_eq_true rfl⟩ (roS hG (hP.sub [] rfl)) rfl rfl (Nat.le_of_ble_eq_true rfl) dX3_neighbourExchanges_41 ⟨Nat.le_of_ble_eq_true rfl, Nat.le_of_ble_eq_true rfl⟩) ?_
      refine lv_isub hx hb dX3_neighbourExchanges_44 ?_
      refine lv_iadd hx hb dX3_neighbourExchanges_45 ?_
      refine lv_istore_n (lv' := [(3, .int (v3 + (r2 - (fJ6_bitCount_0f7a4 (v4 &&& ((1 <<< (r2 &&& 31)) - 1)))))), (6, .int r2), (0, .int v0), (1, .int v1), (2, .int v2), (4, .int v4), (5, .int v5)]) hx hb dX3_neighbourExchanges_46 rfl hl (by decide) rfl (fun ls hl => ?_)
      refine lv_iload hx hb dX3_neighbourExchanges_47 (lv_at hl 5 rfl) ?_
      refine lv_iconst (v := 1) hx hb dX3_neighbourExchanges_49 (by decide) ?_
      refine lv_iload hx hb dX3_neighbourExchanges_50 (lv_at hl 1 rfl) ?_
      refine lv_ishl hx hb dX3_neighbourExchanges_52 ?_
      refine lv_ior hx hb dX3_neighbourExchanges_53 ?_
      refine lv_istore (lv' := [(4, .int (v4 ||| (1 <<< (r2 &&& 31)))), (3, .int (v3 + (r2 - (fJ6_bitCount_0f7a4 (v4 &&& ((1 <<< (r2 &&& 31)) - 1)))))), (6, .int r2), (0, .int v0), (1, .int v1), (2, .int v2), (5, .int v5)]) hx hb dX3_neighbourExchanges_54 hl (by decide) rfl (fun ls hl => ?_)
      refine lv_iinc (v := v5 + 1) (lv' := [(5, .int (v5 + 1)), (4, .int (v4 ||| (1 <<< (r2 &&& 31)))), (3, .int (v3 + (r2 - (fJ6_bitCount_0f7a4 (v4 &&& ((1 <<< (r2 &&& 31)) - 1)))))), (6, .int r2), (0, .int v0), (1, .int v1), (2, .int v2)]) hx hb dX3_neighbourExchanges_56 hl (k := 6) rfl rfl (by decide) rfl (fun ls hl => ?_)
      refine lv_goto (tgt := 8) hx hb dX3_neighbourExchanges_59 (by decide) ?_
      exact ih v0 v1 v2 (v3 + (r2 - (fJ6_bitCount_0f7a4 (v4 &&& ((1 <<< (r2 &&& 31)) - 1))))) (v4 ||| (1 <<< (r2 &&& 31))) (v5 + 1) _ (lv_sub hl [4, 5, 6, 2, 1, 0] rfl) h
  unfold fX3_neighbourExchanges at h
  refine lv_iconst (v := 0) hx hb dX3_neighbourExchanges_0 (by decide) ?_
  refine lv_istore_n (lv' := [(3, .int (0)), (0, .int v0), (1, .int v1), (2, .int v2)]) hx hb dX3_neighbourExchanges_1 rfl hl (by decide) rfl (fun ls hl => ?_)
  refine lv_iconst (v := 0) hx hb dX3_neighbourExchanges_2 (by decide) ?_
  refine lv_istore (lv' := [(4, .int (0)), (3, .int (0)), (0, .int v0), (1, .int v1), (2, .int v2)]) hx hb dX3_neighbourExchanges_3 hl (by decide) rfl (fun ls hl => ?_)
  refine lv_iconst (v := 0) hx hb dX3_neighbourExchanges_5 (by decide) ?_
  refine lv_istore (lv' := [(5, .int (0)), (4, .int (0)), (3, .int (0)), (0, .int v0), (1, .int v1), (2, .int v2)]) hx hb dX3_neighbourExchanges_6 hl (by decide) rfl (fun ls hl => ?_)
  exact w8 FU v0 v1 v2 0 0 0 _ (lv_sub hl [3, 4, 5, 2, 1, 0] rfl) h
-- X3_chosen
theorem dX3_chosen_0 : decode cX3_chosen 0 = .ok (.iconst 0, 1) := by decide +kernel
theorem dX3_chosen_1 : decode cX3_chosen 1 = .ok (.istore_n 3, 1) := by decide +kernel
theorem dX3_chosen_2 : decode cX3_chosen 2 = .ok (.iconst 0, 1) := by decide +kernel
theorem dX3_chosen_3 : decode cX3_chosen 3 = .ok (.istore 4, 2) := by decide +kernel
theorem dX3_chosen_5 : decode cX3_chosen 5 = .ok (.iconst 0, 1) := by decide +kernel
theorem dX3_chosen_6 : decode cX3_chosen 6 = .ok (.istore 5, 2) := by decide +kernel
theorem dX3_chosen_8 : decode cX3_chosen 8 = .ok (.iload 5, 2) := by decide +kernel
theorem dX3_chosen_10 : decode cX3_chosen 10 = .ok (.iload_n 1, 1) := by decide +kernel
theorem dX3_chosen_11 : decode cX3_chosen 11 = .ok (.if_icmp .ge 35, 3) := by decide +kernel
theorem dX3_chosen_14 : decode cX3_chosen 14 = .ok (.iload_n 2, 1) := by decide +kernel
theorem dX3_chosen_15 : decode cX3_chosen 15 = .ok (.iload 5, 2) := by decide +kernel
theorem dX3_chosen_17 : decode cX3_chosen 17 = .ok (.ishr, 1) := by decide +kernel
theorem dX3_chosen_18 : decode cX3_chosen 18 = .ok (.iconst 1, 1) := by decide +kernel
theorem dX3_chosen_19 : decode cX3_chosen 19 = .ok (.iand, 1) := by decide +kernel
theorem dX3_chosen_20 : decode cX3_chosen 20 = .ok (.ifCond .eq 20, 3) := by decide +kernel
theorem dX3_chosen_23 : decode cX3_chosen 23 = .ok (.iload_n 3, 1) := by decide +kernel
theorem dX3_chosen_24 : decode cX3_chosen 24 = .ok (.iload_n 0, 1) := by decide +kernel
theorem dX3_chosen_25 : decode cX3_chosen 25 = .ok (.iload 5, 2) := by decide +kernel
theorem dX3_chosen_27 : decode cX3_chosen 27 = .ok (.invokestatic 9, 3) := by decide +kernel
theorem dX3_chosen_30 : decode cX3_chosen 30 = .ok (.iconst 4, 1) := by decide +kernel
theorem dX3_chosen_31 : decode cX3_chosen 31 = .ok (.iload 4, 2) := by decide +kernel
theorem dX3_chosen_33 : decode cX3_chosen 33 = .ok (.imul, 1) := by decide +kernel
theorem dX3_chosen_34 : decode cX3_chosen 34 = .ok (.ishl, 1) := by decide +kernel
theorem dX3_chosen_35 : decode cX3_chosen 35 = .ok (.ior, 1) := by decide +kernel
theorem dX3_chosen_36 : decode cX3_chosen 36 = .ok (.istore_n 3, 1) := by decide +kernel
theorem dX3_chosen_37 : decode cX3_chosen 37 = .ok (.iinc 4 1, 3) := by decide +kernel
theorem dX3_chosen_40 : decode cX3_chosen 40 = .ok (.iinc 5 1, 3) := by decide +kernel
theorem dX3_chosen_43 : decode cX3_chosen 43 = .ok (.goto (-35), 3) := by decide +kernel
theorem dX3_chosen_46 : decode cX3_chosen 46 = .ok (.iload_n 3, 1) := by decide +kernel
theorem dX3_chosen_47 : decode cX3_chosen 47 = .ok (.ireturn, 1) := by decide +kernel
noncomputable def fX3_chosen_40 (k8 : Int32 → Int32 → Int32 → Int32 → Int32 → Int32 → Option (Int32)) (v0 : Int32) (v1 : Int32) (v2 : Int32) (v3 : Int32) (v4 : Int32) (v5 : Int32) : Option (Int32) := k8 v0 v1 v2 v3 v4 (v5 + 1)
noncomputable def fX3_chosen_8  : Nat → Int32 → Int32 → Int32 → Int32 → Int32 → Int32 → Option (Int32)
  | 0, _, _, _, _, _, _ => none
  | n + 1, v0, v1, v2, v3, v4, v5 => (if v1 ≤ v5 then some v3 else (if ((v2 >>> (v5 &&& 31)) &&& 1) = 0 then fX3_chosen_40 (fX3_chosen_8 n) v0 v1 v2 v3 v4 v5 else fX3_chosen_40 (fX3_chosen_8 n) v0 v1 v2 (v3 ||| ((fX3_typeAt v0 v5) <<< ((4 * v4) &&& 31))) (v4 + 1) v5))
theorem fX3_chosen_8_z  (v0 : Int32) (v1 : Int32) (v2 : Int32) (v3 : Int32) (v4 : Int32) (v5 : Int32) : fX3_chosen_8  0 v0 v1 v2 v3 v4 v5 = none := rfl
theorem fX3_chosen_8_s  (n : Nat) (v0 : Int32) (v1 : Int32) (v2 : Int32) (v3 : Int32) (v4 : Int32) (v5 : Int32) : fX3_chosen_8  (n + 1) v0 v1 v2 v3 v4 v5 = (if v1 ≤ v5 then some v3 else (if ((v2 >>> (v5 &&& 31)) &&& 1) = 0 then fX3_chosen_40 (fX3_chosen_8 n) v0 v1 v2 v3 v4 v5 else fX3_chosen_40 (fX3_chosen_8 n) v0 v1 v2 (v3 ||| ((fX3_typeAt v0 v5) <<< ((4 * v4) &&& 31))) (v4 + 1) v5)) := rfl
noncomputable def fX3_chosen  (v0 : Int32) (v1 : Int32) (v2 : Int32) : Option (Int32) := fX3_chosen_8 FU v0 v1 v2 0 0 0
set_option maxHeartbeats 4000000 in
set_option maxRecDepth 100000 in
theorem ctX3_chosen (l : Launch) (g : GT) (v0 : Int32) (v1 : Int32) (v2 : Int32) (o : Int32) (h : fX3_chosen v0 v1 v2 = some o) : Met l yX3_chosen (Cond.code yX3_chosen cX3_chosen 6 (some .int) :: Tw) ⟨1, 0, 0, 21⟩ (va_Pc [.int v0, .int v1, .int v2] (roB g [])) (vp_Si (fun x => x = o)) 0 0 (fun _ => False) := by
  refine ro_meti (by decide) (Nat.le_of_ble_eq_true rfl) (lv0 := [(0, .int v0), (1, .int v1), (2, .int v2)]) rfl ?_
  intro p e s m args below meth c ls Q cx hret hG hP hl
  have hx := cx.1
  have hb := cx.2.1
  have hG0 := hG
  have w40 : ∀ (k8 : Int32 → Int32 → Int32 → Int32 → Int32 → Int32 → Option (Int32)) (hk8 : ∀ (v0 : Int32) (v1 : Int32) (v2 : Int32) (v3 : Int32) (v4 : Int32) (v5 : Int32) (ls : Array Slot), lv_has ls 6 [(0, .int v0), (1, .int v1), (2, .int v2), (3, .int v3), (4, .int v4), (5, .int v5)] → k8 v0 v1 v2 v3 v4 v5 = some o → W p l e ⟨1, 0, 0, 21⟩ s m args below meth c s.heap [] 0 0 Q (F0 m 8 ls [])) (v0 : Int32) (v1 : Int32) (v2 : Int32) (v3 : Int32) (v4 : Int32) (v5 : Int32) (ls : Array Slot), lv_has ls 6 [(0, .int v0), (1, .int v1), (2, .int v2), (3, .int v3), (4, .int v4), (5, .int v5)] → fX3_chosen_40 k8 v0 v1 v2 v3 v4 v5 = some o → W p l e ⟨1, 0, 0, 21⟩ s m args below meth c s.heap [] 0 0 Q (F0 m 40 ls []) := by
    intro k8 hk8 v0 v1 v2 v3 v4 v5 ls hl h
    unfold fX3_chosen_40 at h
    refine lv_iinc (v := v5 + 1) (lv' := [(5, .int (v5 + 1)), (0, .int v0), (1, .int v1), (2, .int v2), (3, .int v3), (4, .int v4)]) hx hb dX3_chosen_40 hl (k := 5) rfl rfl (by decide) rfl (fun ls hl => ?_)
    refine lv_goto (tgt := 8) hx hb dX3_chosen_43 (by decide) ?_
    exact hk8 v0 v1 v2 v3 v4 (v5 + 1) _ (lv_sub hl [1, 2, 3, 4, 5, 0] rfl) h
  have w8 : ∀ (n : Nat) (v0 : Int32) (v1 : Int32) (v2 : Int32) (v3 : Int32) (v4 : Int32) (v5 : Int32) (ls : Array Slot), lv_has ls 6 [(0, .int v0), (1, .int v1), (2, .int v2), (3, .int v3), (4, .int v4), (5, .int v5)] → fX3_chosen_8  n v0 v1 v2 v3 v4 v5 = some o → W p l e ⟨1, 0, 0, 21⟩ s m args below meth c s.heap [] 0 0 Q (F0 m 8 ls []) := by
    intro n
    induction n with
    | zero => intro v0 v1 v2 v3 v4 v5 ls hl h; cases (fX3_chosen_8_z  v0 v1 v2 v3 v4 v5).symm.trans h
    | succ n ih =>
    intro v0 v1 v2 v3 v4 v5 ls hl h
    have h := (fX3_chosen_8_s  n v0 v1 v2 v3 v4 v5).symm.trans h
    refine lv_iload hx hb dX3_chosen_8 (lv_at hl 5 rfl) ?_
    refine lv_iload_n hx hb dX3_chosen_10 rfl (lv_at hl 1 rfl) ?_
    refine lv_icmp_ge (tgt := 46) hx hb dX3_chosen_11 (by decide) (fun c1 => ?_) (fun c1 => ?_)
    · have h := itp c1 h
      refine lv_iload_n hx hb dX3_chosen_46 rfl (lv_at hl 3 rfl) ?_
      exact hret _ _ _ dX3_chosen_47 (Option.some.inj h)
    · have h := itn c1 h
      refine lv_iload_n hx hb dX3_chosen_14 rfl (lv_at hl 2 rfl) ?_
      refine lv_iload hx hb dX3_chosen_15 (lv_at hl 5 rfl) ?_
      refine lv_ishr hx hb dX3_chosen_17 ?_
      refine lv_iconst (v := 1) hx hb dX3_chosen_18 (by decide) ?_
      refine lv_iand hx hb dX3_chosen_19 ?_
      refine lv_if_eq (tgt := 40) hx hb dX3_chosen_20 (by decide) (fun c2 => ?_) (fun c2 => ?_)
      · have h := itp c2 h
        exact w40 _ ih v0 v1 v2 v3 v4 v5 _ (lv_sub hl [0, 1, 2, 3, 4, 5] rfl) h
      · have h := itn c2 h
        refine lv_iload_n hx hb dX3_chosen_23 rfl (lv_at hl 3 rfl) ?_
        refine lv_iload_n hx hb dX3_chosen_24 rfl (lv_at hl 0 rfl) ?_
        refine lv_iload hx hb dX3_chosen_25 (lv_at hl 5 rfl) ?_
        refine ro_i (runS (As := [.int v0, .int v5]) (rest := [.int v3]) cx hl.1 (ctX3_typeAt l g v0 v5 (fX3_typeAt v0 v5) rfl) kmX3_typeAt ksX3_typeAt lm_X3_9 ⟨rfl, rfl⟩ ⟨Nat.le_of_ble_eq_true rfl, Nat.le_of_ble_eq_true rfl⟩ (roS hG (hP.sub [] rfl)) rfl rfl (Nat.le_of_ble_eq_true rfl) dX3_chosen_27 ⟨Nat.le_of_ble_eq_true rfl, Nat.le_of_ble_eq_true rfl⟩) ?_
        refine lv_iconst (v := 4) hx hb dX3_chosen_30 (by decide) ?_
        refine lv_iload hx hb dX3_chosen_31 (lv_at hl 4 rfl) ?_
        refine lv_imul hx hb dX3_chosen_33 ?_
        refine lv_ishl hx hb dX3_chosen_34 ?_
        refine lv_ior hx hb dX3_chosen_35 ?_
        refine lv_istore_n (lv' := [(3, .int (v3 ||| ((fX3_typeAt v0 v5) <<< ((4 * v4) &&& 31)))), (0, .int v0), (1, .int v1), (2, .int v2), (4, .int v4), (5, .int v5)]) hx hb dX3_chosen_36 rfl hl (by decide) rfl (fun ls hl => ?_)
        refine lv_iinc (v := v4 + 1) (lv' := [(4, .int (v4 + 1)), (3, .int (v3 ||| ((fX3_typeAt v0 v5) <<< ((4 * v4) &&& 31)))), (0, .int v0), (1, .int v1), (2, .int v2), (5, .int v5)]) hx hb dX3_chosen_37 hl (k := 4) rfl rfl (by decide) rfl (fun ls hl => ?_)
        exact w40 _ ih v0 v1 v2 (v3 ||| ((fX3_typeAt v0 v5) <<< ((4 * v4) &&& 31))) (v4 + 1) v5 _ (lv_sub hl [2, 3, 4, 1, 0, 5] rfl) h
  unfold fX3_chosen at h
  refine lv_iconst (v := 0) hx hb dX3_chosen_0 (by decide) ?_
  refine lv_istore_n (lv' := [(3, .int (0)), (0, .int v0), (1, .int v1), (2, .int v2)]) hx hb dX3_chosen_1 rfl hl (by decide) rfl (fun ls hl => ?_)
  refine lv_iconst (v := 0) hx hb dX3_chosen_2 (by decide) ?_
  refine lv_istore (lv' := [(4, .int (0)), (3, .int (0)), (0, .int v0), (1, .int v1), (2, .int v2)]) hx hb dX3_chosen_3 hl (by decide) rfl (fun ls hl => ?_)
  refine lv_iconst (v := 0) hx hb dX3_chosen_5 (by decide) ?_
  refine lv_istore (lv' := [(5, .int (0)), (4, .int (0)), (3, .int (0)), (0, .int v0), (1, .int v1), (2, .int v2)]) hx hb dX3_chosen_6 hl (by decide) rfl (fun ls hl => ?_)
  exact w8 FU v0 v1 v2 0 0 0 _ (lv_sub hl [3, 4, 5, 2, 1, 0] rfl) h
-- X3_inserted
theorem dX3_inserted_0 : decode cX3_inserted 0 = .ok (.iconst 0, 1) := by decide +kernel
theorem dX3_inserted_1 : decode cX3_inserted 1 = .ok (.istore 4, 2) := by decide +kernel
theorem dX3_inserted_3 : decode cX3_inserted 3 = .ok (.iconst 0, 1) := by decide +kernel
theorem dX3_inserted_4 : decode cX3_inserted 4 = .ok (.istore 5, 2) := by decide +kernel
theorem dX3_inserted_6 : decode cX3_inserted 6 = .ok (.iload 5, 2) := by decide +kernel
theorem dX3_inserted_8 : decode cX3_inserted 8 = .ok (.iload_n 1, 1) := by decide +kernel
theorem dX3_inserted_9 : decode cX3_inserted 9 = .ok (.if_icmp .gt 56, 3) := by decide +kernel
theorem dX3_inserted_12 : decode cX3_inserted 12 = .ok (.iload 5, 2) := by decide +kernel
theorem dX3_inserted_14 : decode cX3_inserted 14 = .ok (.iload_n 2, 1) := by decide +kernel
theorem dX3_inserted_15 : decode cX3_inserted 15 = .ok (.if_icmp .ge 12, 3) := by decide +kernel
theorem dX3_inserted_18 : decode cX3_inserted 18 = .ok (.iload_n 0, 1) := by decide +kernel
theorem dX3_inserted_19 : decode cX3_inserted 19 = .ok (.iload 5, 2) := by decide +kernel
theorem dX3_inserted_21 : decode cX3_inserted 21 = .ok (.invokestatic 9, 3) := by decide +kernel
theorem dX3_inserted_24 : decode cX3_inserted 24 = .ok (.goto 21, 3) := by decide +kernel
theorem dX3_inserted_27 : decode cX3_inserted 27 = .ok (.iload 5, 2) := by decide +kernel
theorem dX3_inserted_29 : decode cX3_inserted 29 = .ok (.iload_n 2, 1) := by decide +kernel
theorem dX3_inserted_30 : decode cX3_inserted 30 = .ok (.if_icmp .ne 7, 3) := by decide +kernel
theorem dX3_inserted_33 : decode cX3_inserted 33 = .ok (.iload_n 3, 1) := by decide +kernel
theorem dX3_inserted_34 : decode cX3_inserted 34 = .ok (.goto 11, 3) := by decide +kernel
theorem dX3_inserted_37 : decode cX3_inserted 37 = .ok (.iload_n 0, 1) := by decide +kernel
theorem dX3_inserted_38 : decode cX3_inserted 38 = .ok (.iload 5, 2) := by decide +kernel
theorem dX3_inserted_40 : decode cX3_inserted 40 = .ok (.iconst 1, 1) := by decide +kernel
theorem dX3_inserted_41 : decode cX3_inserted 41 = .ok (.isub, 1) := by decide +kernel
theorem dX3_inserted_42 : decode cX3_inserted 42 = .ok (.invokestatic 9, 3) := by decide +kernel
theorem dX3_inserted_45 : decode cX3_inserted 45 = .ok (.istore 6, 2) := by decide +kernel
theorem dX3_inserted_47 : decode cX3_inserted 47 = .ok (.iload 4, 2) := by decide +kernel
theorem dX3_inserted_49 : decode cX3_inserted 49 = .ok (.iload 6, 2) := by decide +kernel
theorem dX3_inserted_51 : decode cX3_inserted 51 = .ok (.iconst 4, 1) := by decide +kernel
theorem dX3_inserted_52 : decode cX3_inserted 52 = .ok (.iload 5, 2) := by decide +kernel
theorem dX3_inserted_54 : decode cX3_inserted 54 = .ok (.imul, 1) := by decide +kernel
theorem dX3_inserted_55 : decode cX3_inserted 55 = .ok (.ishl, 1) := by decide +kernel
theorem dX3_inserted_56 : decode cX3_inserted 56 = .ok (.ior, 1) := by decide +kernel
theorem dX3_inserted_57 : decode cX3_inserted 57 = .ok (.istore 4, 2) := by decide +kernel
theorem dX3_inserted_59 : decode cX3_inserted 59 = .ok (.iinc 5 1, 3) := by decide +kernel
theorem dX3_inserted_62 : decode cX3_inserted 62 = .ok (.goto (-56), 3) := by decide +kernel
theorem dX3_inserted_65 : decode cX3_inserted 65 = .ok (.iload 4, 2) := by decide +kernel
theorem dX3_inserted_67 : decode cX3_inserted 67 = .ok (.ireturn, 1) := by decide +kernel
noncomputable def fX3_inserted_45 (k6 : Int32 → Int32 → Int32 → Int32 → Int32 → Int32 → Option (Int32)) (v0 : Int32) (v1 : Int32) (v2 : Int32) (v3 : Int32) (v4 : Int32) (v5 : Int32) (z0 : Int32) : Option (Int32) := k6 v0 v1 v2 v3 (v4 ||| (z0 <<< ((4 * v5) &&& 31))) (v5 + 1)
noncomputable def fX3_inserted_6  : Nat → Int32 → Int32 → Int32 → Int32 → Int32 → Int32 → Option (Int32)
  | 0, _, _, _, _, _, _ => none
  | n + 1, v0, v1, v2, v3, v4, v5 => (if v1 < v5 then some v4 else (if v2 ≤ v5 then (if v5 = v2 then fX3_inserted_45 (fX3_inserted_6 n) v0 v1 v2 v3 v4 v5 v3 else fX3_inserted_45 (fX3_inserted_6 n) v0 v1 v2 v3 v4 v5 (fX3_typeAt v0 (v5 - 1))) else fX3_inserted_45 (fX3_inserted_6 n) v0 v1 v2 v3 v4 v5 (fX3_typeAt v0 v5)))
theorem fX3_inserted_6_z  (v0 : Int32) (v1 : Int32) (v2 : Int32) (v3 : Int32) (v4 : Int32) (v5 : Int32) : fX3_inserted_6  0 v0 v1 v2 v3 v4 v5 = none := rfl
theorem fX3_inserted_6_s  (n : Nat) (v0 : Int32) (v1 : Int32) (v2 : Int32) (v3 : Int32) (v4 : Int32) (v5 : Int32) : fX3_inserted_6  (n + 1) v0 v1 v2 v3 v4 v5 = (if v1 < v5 then some v4 else (if v2 ≤ v5 then (if v5 = v2 then fX3_inserted_45 (fX3_inserted_6 n) v0 v1 v2 v3 v4 v5 v3 else fX3_inserted_45 (fX3_inserted_6 n) v0 v1 v2 v3 v4 v5 (fX3_typeAt v0 (v5 - 1))) else fX3_inserted_45 (fX3_inserted_6 n) v0 v1 v2 v3 v4 v5 (fX3_typeAt v0 v5))) := rfl
noncomputable def fX3_inserted  (v0 : Int32) (v1 : Int32) (v2 : Int32) (v3 : Int32) : Option (Int32) := fX3_inserted_6 FU v0 v1 v2 v3 0 0
set_option maxHeartbeats 4000000 in
set_option maxRecDepth 100000 in
theorem ctX3_inserted (l : Launch) (g : GT) (v0 : Int32) (v1 : Int32) (v2 : Int32) (v3 : Int32) (o : Int32) (h : fX3_inserted v0 v1 v2 v3 = some o) : Met l yX3_inserted (Cond.code yX3_inserted cX3_inserted 7 (some .int) :: Tw) ⟨1, 0, 0, 21⟩ (va_Pc [.int v0, .int v1, .int v2, .int v3] (roB g [])) (vp_Si (fun x => x = o)) 0 0 (fun _ => False) := by
  refine ro_meti (by decide) (Nat.le_of_ble_eq_true rfl) (lv0 := [(0, .int v0), (1, .int v1), (2, .int v2), (3, .int v3)]) rfl ?_
  intro p e s m args below meth c ls Q cx hret hG hP hl
  have hx := cx.1
  have hb := cx.2.1
  have hG0 := hG
  have w45 : ∀ (k6 : Int32 → Int32 → Int32 → Int32 → Int32 → Int32 → Option (Int32)) (hk6 : ∀ (v0 : Int32) (v1 : Int32) (v2 : Int32) (v3 : Int32) (v4 : Int32) (v5 : Int32) (ls : Array Slot), lv_has ls 7 [(0, .int v0), (1, .int v1), (2, .int v2), (3, .int v3), (4, .int v4), (5, .int v5)] → k6 v0 v1 v2 v3 v4 v5 = some o → W p l e ⟨1, 0, 0, 21⟩ s m args below meth c s.heap [] 0 0 Q (F0 m 6 ls [])) (v0 : Int32) (v1 : Int32) (v2 : Int32) (v3 : Int32) (v4 : Int32) (v5 : Int32) (z0 : Int32) (ls : Array Slot), lv_has ls 7 [(0, .int v0), (1, .int v1), (2, .int v2), (3, .int v3), (4, .int v4), (5, .int v5)] → fX3_inserted_45 k6 v0 v1 v2 v3 v4 v5 z0 = some o → W p l e ⟨1, 0, 0, 21⟩ s m args below meth c s.heap [] 0 0 Q (F0 m 45 ls [.int z0]) := by
    intro k6 hk6 v0 v1 v2 v3 v4 v5 z0 ls hl h
    unfold fX3_inserted_45 at h
    refine lv_istore (lv' := [(6, .int z0), (0, .int v0), (1, .int v1), (2, .int v2), (3, .int v3), (4, .int v4), (5, .int v5)]) hx hb dX3_inserted_45 hl (by decide) rfl (fun ls hl => ?_)
    refine lv_iload hx hb dX3_inserted_47 (lv_at hl 5 rfl) ?_
    refine lv_iload hx hb dX3_inserted_49 (lv_at hl 0 rfl) ?_
    refine lv_iconst (v := 4) hx hb dX3_inserted_51 (by decide) ?_
    refine lv_iload hx hb dX3_inserted_52 (lv_at hl 6 rfl) ?_
    refine lv_imul hx hb dX3_inserted_54 ?_
    refine lv_ishl hx hb dX3_inserted_55 ?_
    refine lv_ior hx hb dX3_inserted_56 ?_
    refine lv_istore (lv' := [(4, .int (v4 ||| (z0 <<< ((4 * v5) &&& 31)))), (6, .int z0), (0, .int v0), (1, .int v1), (2, .int v2), (3, .int v3), (5, .int v5)]) hx hb dX3_inserted_57 hl (by decide) rfl (fun ls hl => ?_)
    refine lv_iinc (v := v5 + 1) (lv' := [(5, .int (v5 + 1)), (4, .int (v4 ||| (z0 <<< ((4 * v5) &&& 31)))), (6, .int z0), (0, .int v0), (1, .int v1), (2, .int v2), (3, .int v3)]) hx hb dX3_inserted_59 hl (k := 6) rfl rfl (by decide) rfl (fun ls hl => ?_)
    refine lv_goto (tgt := 6) hx hb dX3_inserted_62 (by decide) ?_
    exact hk6 v0 v1 v2 v3 (v4 ||| (z0 <<< ((4 * v5) &&& 31))) (v5 + 1) _ (lv_sub hl [3, 4, 5, 6, 1, 0] rfl) h
  have w6 : ∀ (n : Nat) (v0 : Int32) (v1 : Int32) (v2 : Int32) (v3 : Int32) (v4 : Int32) (v5 : Int32) (ls : Array Slot), lv_has ls 7 [(0, .int v0), (1, .int v1), (2, .int v2), (3, .int v3), (4, .int v4), (5, .int v5)] → fX3_inserted_6  n v0 v1 v2 v3 v4 v5 = some o → W p l e ⟨1, 0, 0, 21⟩ s m args below meth c s.heap [] 0 0 Q (F0 m 6 ls []) := by
    intro n
    induction n with
    | zero => intro v0 v1 v2 v3 v4 v5 ls hl h; cases (fX3_inserted_6_z  v0 v1 v2 v3 v4 v5).symm.trans h
    | succ n ih =>
    intro v0 v1 v2 v3 v4 v5 ls hl h
    have h := (fX3_inserted_6_s  n v0 v1 v2 v3 v4 v5).symm.trans h
    refine lv_iload hx hb dX3_inserted_6 (lv_at hl 5 rfl) ?_
    refine lv_iload_n hx hb dX3_inserted_8 rfl (lv_at hl 1 rfl) ?_
    refine lv_icmp_gt (tgt := 65) hx hb dX3_inserted_9 (by decide) (fun c1 => ?_) (fun c1 => ?_)
    · have h := itp c1 h
      refine lv_iload hx hb dX3_inserted_65 (lv_at hl 4 rfl) ?_
      exact hret _ _ _ dX3_inserted_67 (Option.some.inj h)
    · have h := itn c1 h
      refine lv_iload hx hb dX3_inserted_12 (lv_at hl 5 rfl) ?_
      refine lv_iload_n hx hb dX3_inserted_14 rfl (lv_at hl 2 rfl) ?_
      refine lv_icmp_ge (tgt := 27) hx hb dX3_inserted_15 (by decide) (fun c2 => ?_) (fun c2 => ?_)
      · have h := itp c2 h
        refine lv_iload hx hb dX3_inserted_27 (lv_at hl 5 rfl) ?_
        refine lv_iload_n hx hb dX3_inserted_29 rfl (lv_at hl 2 rfl) ?_
        refine lv_icmp_ne (tgt := 37) hx hb dX3_inserted_30 (by decide) (fun c3 => ?_) (fun c3 => ?_)
        · have h := itn c3 h
          refine lv_iload_n hx hb dX3_inserted_37 rfl (lv_at hl 0 rfl) ?_
          refine lv_iload hx hb dX3_inserted_38 (lv_at hl 5 rfl) ?_
          refine lv_iconst (v := 1) hx hb dX3_inserted_40 (by decide) ?_
          refine lv_isub hx hb dX3_inserted_41 ?_
          refine ro_i (runS (As := [.int v0, .int (v5 - 1)]) (rest := []) cx hl.1 (ctX3_typeAt l g v0 (v5 - 1) (fX3_typeAt v0 (v5 - 1)) rfl) kmX3_typeAt ksX3_typeAt lm_X3_9 ⟨rfl, rfl⟩ ⟨Nat.le_of_ble_eq_true rfl, Nat.le_of_ble_eq_true rfl⟩ (roS hG (hP.sub [] rfl)) rfl rfl (Nat.le_of_ble_eq_true rfl) dX3_inserted_42 ⟨Nat.le_of_ble_eq_true rfl, Nat.le_of_ble_eq_true rfl⟩) ?_
          exact w45 _ ih v0 v1 v2 v3 v4 v5 (fX3_typeAt v0 (v5 - 1)) _ (lv_sub hl [0, 1, 2, 3, 4, 5] rfl) h
        · have h := itp c3 h
          refine lv_iload_n hx hb dX3_inserted_33 rfl (lv_at hl 3 rfl) ?_
          refine lv_goto (tgt := 45) hx hb dX3_inserted_34 (by decide) ?_
          exact w45 _ ih v0 v1 v2 v3 v4 v5 v3 _ (lv_sub hl [0, 1, 2, 3, 4, 5] rfl) h
      · have h := itn c2 h
        refine lv_iload_n hx hb dX3_inserted_18 rfl (lv_at hl 0 rfl) ?_
        refine lv_iload hx hb dX3_inserted_19 (lv_at hl 5 rfl) ?_
        refine ro_i (runS (As := [.int v0, .int v5]) (rest := []) cx hl.1 (ctX3_typeAt l g v0 v5 (fX3_typeAt v0 v5) rfl) kmX3_typeAt ksX3_typeAt lm_X3_9 ⟨rfl, rfl⟩ ⟨Nat.le_of_ble_eq_true rfl, Nat.le_of_ble_eq_true rfl⟩ (roS hG (hP.sub [] rfl)) rfl rfl (Nat.le_of_ble_eq_true rfl) dX3_inserted_21 ⟨Nat.le_of_ble_eq_true rfl, Nat.le_of_ble_eq_true rfl⟩) ?_
        refine lv_goto (tgt := 45) hx hb dX3_inserted_24 (by decide) ?_
        exact w45 _ ih v0 v1 v2 v3 v4 v5 (fX3_typeAt v0 v5) _ (lv_sub hl [0, 1, 2, 3, 4, 5] rfl) h
  unfold fX3_inserted at h
  refine lv_iconst (v := 0) hx hb dX3_inserted_0 (by decide) ?_
  refine lv_istore (lv' := [(4, .int (0)), (0, .int v0), (1, .int v1), (2, .int v2), (3, .int v3)]) hx hb dX3_inserted_1 hl (by decide) rfl (fun ls hl => ?_)
  refine lv_iconst (v := 0) hx hb dX3_inserted_3 (by decide) ?_
  refine lv_istore (lv' := [(5, .int (0)), (4, .int (0)), (0, .int v0), (1, .int v1), (2, .int v2), (3, .int v3)]) hx hb dX3_inserted_4 hl (by decide) rfl (fun ls hl => ?_)
  exact w6 FU v0 v1 v2 v3 0 0 _ (lv_sub hl [2, 3, 4, 5, 1, 0] rfl) h
-- X3_whirled
theorem dX3_whirled_0 : decode cX3_whirled 0 = .ok (.iload_n 0, 1) := by decide +kernel
theorem dX3_whirled_1 : decode cX3_whirled 1 = .ok (.istore_n 3, 1) := by decide +kernel
theorem dX3_whirled_2 : decode cX3_whirled 2 = .ok (.iconst 0, 1) := by decide +kernel
theorem dX3_whirled_3 : decode cX3_whirled 3 = .ok (.istore 4, 2) := by decide +kernel
theorem dX3_whirled_5 : decode cX3_whirled 5 = .ok (.iload 4, 2) := by decide +kernel
theorem dX3_whirled_7 : decode cX3_whirled 7 = .ok (.iload_n 1, 1) := by decide +kernel
theorem dX3_whirled_8 : decode cX3_whirled 8 = .ok (.if_icmp .ge 61, 3) := by decide +kernel
theorem dX3_whirled_11 : decode cX3_whirled 11 = .ok (.iload_n 0, 1) := by decide +kernel
theorem dX3_whirled_12 : decode cX3_whirled 12 = .ok (.iload 4, 2) := by decide +kernel
theorem dX3_whirled_14 : decode cX3_whirled 14 = .ok (.invokestatic 15, 3) := by decide +kernel
theorem dX3_whirled_17 : decode cX3_whirled 17 = .ok (.istore 5, 2) := by decide +kernel
theorem dX3_whirled_19 : decode cX3_whirled 19 = .ok (.iconst 0, 1) := by decide +kernel
theorem dX3_whirled_20 : decode cX3_whirled 20 = .ok (.istore 6, 2) := by decide +kernel
theorem dX3_whirled_22 : decode cX3_whirled 22 = .ok (.iload 6, 2) := by decide +kernel
theorem dX3_whirled_24 : decode cX3_whirled 24 = .ok (.iload_n 2, 1) := by decide +kernel
theorem dX3_whirled_25 : decode cX3_whirled 25 = .ok (.if_icmp .ge 19, 3) := by decide +kernel
theorem dX3_whirled_28 : decode cX3_whirled 28 = .ok (.getstatic 33, 3) := by decide +kernel
theorem dX3_whirled_31 : decode cX3_whirled 31 = .ok (.iload 5, 2) := by decide +kernel
theorem dX3_whirled_33 : decode cX3_whirled 33 = .ok (.iconst 3, 1) := by decide +kernel
theorem dX3_whirled_34 : decode cX3_whirled 34 = .ok (.iand, 1) := by decide +kernel
theorem dX3_whirled_35 : decode cX3_whirled 35 = .ok (.iaload, 1) := by decide +kernel
theorem dX3_whirled_36 : decode cX3_whirled 36 = .ok (.istore 5, 2) := by decide +kernel
theorem dX3_whirled_38 : decode cX3_whirled 38 = .ok (.iinc 6 1, 3) := by decide +kernel
theorem dX3_whirled_41 : decode cX3_whirled 41 = .ok (.goto (-19), 3) := by decide +kernel
theorem dX3_whirled_44 : decode cX3_whirled 44 = .ok (.iload_n 3, 1) := by decide +kernel
theorem dX3_whirled_45 : decode cX3_whirled 45 = .ok (.iload 4, 2) := by decide +kernel
theorem dX3_whirled_47 : decode cX3_whirled 47 = .ok (.iload_n 0, 1) := by decide +kernel
theorem dX3_whirled_48 : decode cX3_whirled 48 = .ok (.iload 4, 2) := by decide +kernel
theorem dX3_whirled_50 : decode cX3_whirled 50 = .ok (.invokestatic 9, 3) := by decide +kernel
theorem dX3_whirled_53 : decode cX3_whirled 53 = .ok (.bipush 12, 2) := by decide +kernel
theorem dX3_whirled_55 : decode cX3_whirled 55 = .ok (.iand, 1) := by decide +kernel
theorem dX3_whirled_56 : decode cX3_whirled 56 = .ok (.iload 5, 2) := by decide +kernel
theorem dX3_whirled_58 : decode cX3_whirled 58 = .ok (.ior, 1) := by decide +kernel
theorem dX3_whirled_59 : decode cX3_whirled 59 = .ok (.invokestatic 37, 3) := by decide +kernel
theorem dX3_whirled_62 : decode cX3_whirled 62 = .ok (.istore_n 3, 1) := by decide +kernel
theorem dX3_whirled_63 : decode cX3_whirled 63 = .ok (.iinc 4 1, 3) := by decide +kernel
theorem dX3_whirled_66 : decode cX3_whirled 66 = .ok (.goto (-61), 3) := by decide +kernel
theorem dX3_whirled_69 : decode cX3_whirled 69 = .ok (.iload_n 3, 1) := by decide +kernel
theorem dX3_whirled_70 : decode cX3_whirled 70 = .ok (.ireturn, 1) := by decide +kernel
noncomputable def fX3_whirled_44 (k5 : Int32 → Int32 → Int32 → Int32 → Int32 → Option (Int32)) (v0 : Int32) (v1 : Int32) (v2 : Int32) (v3 : Int32) (v4 : Int32) (v5 : Int32) : Option (Int32) := k5 v0 v1 v2 (fX3_with v3 v4 (((fX3_typeAt v0 v4) &&& 12) ||| v5)) (v4 + 1)
noncomputable def fX3_whirled_22 (k5 : Int32 → Int32 → Int32 → Int32 → Int32 → Option (Int32)) : Nat → Int32 → Int32 → Int32 → Int32 → Int32 → Int32 → Int32 → Option (Int32)
  | 0, _, _, _, _, _, _, _ => none
  | n + 1, v0, v1, v2, v3, v4, v5, v6 => (if v2 ≤ v6 then fX3_whirled_44 k5 v0 v1 v2 v3 v4 v5 else chk 4 (v5 &&& 3) (fX3_whirled_22 k5 n v0 v1 v2 v3 v4 (stF 0 (v5 &&& 3).toNatClampNeg) (v6 + 1)))
theorem fX3_whirled_22_z (k5 : Int32 → Int32 → Int32 → Int32 → Int32 → Option (Int32)) (v0 : Int32) (v1 : Int32) (v2 : Int32) (v3 : Int32) (v4 : Int32) (v5 : Int32) (v6 : Int32) : fX3_whirled_22 k5 0 v0 v1 v2 v3 v4 v5 v6 = none := rfl
theorem fX3_whirled_22_s (k5 : Int32 → Int32 → Int32 → Int32 → Int32 → Option (Int32)) (n : Nat) (v0 : Int32) (v1 : Int32) (v2 : Int32) (v3 : Int32) (v4 : Int32) (v5 : Int32) (v6 : Int32) : fX3_whirled_22 k5 (n + 1) v0 v1 v2 v3 v4 v5 v6 = (if v2 ≤ v6 then fX3_whirled_44 k5 v0 v1 v2 v3 v4 v5 else chk 4 (v5 &&& 3) (fX3_whirled_22 k5 n v0 v1 v2 v3 v4 (stF 0 (v5 &&& 3).toNatClampNeg) (v6 + 1))) := rfl
noncomputable def fX3_whirled_5  : Nat → Int32 → Int32 → Int32 → Int32 → Int32 → Option (Int32)
  | 0, _, _, _, _, _ => none
  | n + 1, v0, v1, v2, v3, v4 => (if v1 ≤ v4 then some v3 else fX3_whirled_22 (fX3_whirled_5 n) FU v0 v1 v2 v3 v4 (fX3_angleAt v0 v4) 0)
theorem fX3_whirled_5_z  (v0 : Int32) (v1 : Int32) (v2 : Int32) (v3 : Int32) (v4 : Int32) : fX3_whirled_5  0 v0 v1 v2 v3 v4 = none := rfl
theorem fX3_whirled_5_s  (n : Nat) (v0 : Int32) (v1 : Int32) (v2 : Int32) (v3 : Int32) (v4 : Int32) : fX3_whirled_5  (n + 1) v0 v1 v2 v3 v4 = (if v1 ≤ v4 then some v3 else fX3_whirled_22 (fX3_whirled_5 n) FU v0 v1 v2 v3 v4 (fX3_angleAt v0 v4) 0) := rfl
noncomputable def fX3_whirled  (v0 : Int32) (v1 : Int32) (v2 : Int32) : Option (Int32) := fX3_whirled_5 FU v0 v1 v2 v0 0
set_option maxHeartbeats 4000000 in
set_option maxRecDepth 100000 in
theorem ctX3_whirled (l : Launch) (g : GT) (v0 : Int32) (v1 : Int32) (v2 : Int32) (o : Int32) (h : fX3_whirled v0 v1 v2 = some o) : Met l yX3_whirled (Cond.code yX3_whirled cX3_whirled 7 (some .int) :: Tw) ⟨1, 0, 0, 22⟩ (va_Pc [.int v0, .int v1, .int v2] (roB g [])) (vp_Si (fun x => x = o)) 0 0 (fun _ => False) := by
  refine ro_meti (by decide) (Nat.le_of_ble_eq_true rfl) (lv0 := [(0, .int v0), (1, .int v1), (2, .int v2)]) rfl ?_
  intro p e s m args below meth c ls Q cx hret hG hP hl
  have hx := cx.1
  have hb := cx.2.1
  have hG0 := hG
  have w44 : ∀ (k5 : Int32 → Int32 → Int32 → Int32 → Int32 → Option (Int32)) (hk5 : ∀ (v0 : Int32) (v1 : Int32) (v2 : Int32) (v3 : Int32) (v4 : Int32) (ls : Array Slot), lv_has ls 7 [(0, .int v0), (1, .int v1), (2, .int v2), (3, .int v3), (4, .int v4)] → k5 v0 v1 v2 v3 v4 = some o → W p l e ⟨1, 0, 0, 22⟩ s m args below meth c s.heap [] 0 0 Q (F0 m 5 ls [])) (v0 : Int32) (v1 : Int32) (v2 : Int32) (v3 : Int32) (v4 : Int32) (v5 : Int32) (ls : Array Slot), lv_has ls 7 [(0, .int v0), (1, .int v1), (2, .int v2), (3, .int v3), (4, .int v4), (5, .int v5)] → fX3_whirled_44 k5 v0 v1 v2 v3 v4 v5 = some o → W p l e ⟨1, 0, 0, 22⟩ s m args below meth c s.heap [] 0 0 Q (F0 m 44 ls []) := by
    intro k5 hk5 v0 v1 v2 v3 v4 v5 ls hl h
    unfold fX3_whirled_44 at h
    refine lv_iload_n hx hb dX3_whirled_44 rfl (lv_at hl 3 rfl) ?_
    refine lv_iload hx hb dX3_whirled_45 (lv_at hl 4 rfl) ?_
    refine lv_iload_n hx hb dX3_whirled_47 rfl (lv_at hl 0 rfl) ?_
    refine lv_iload hx hb dX3_whirled_48 (lv_at hl 4 rfl) ?_
    refine ro_i (runS (As := [.int v0, .int v4]) (rest := [.int v4, .int v3]) cx hl.1 (ctX3_typeAt l g v0 v4 (fX3_typeAt v0 v4) rfl) kmX3_typeAt ksX3_typeAt lm_X3_9 ⟨rfl, rfl⟩ ⟨Nat.le_of_ble_eq_true rfl, Nat.le_of_ble_eq_true rfl⟩ (roS hG (hP.sub [] rfl)) rfl rfl (Nat.le_of_ble_eq_true rfl) dX3_whirled_50 ⟨Nat.le_of_ble_eq_true rfl, Nat.le_of_ble_eq_true rfl⟩) ?_
    refine lv_bipush (v := 12) hx hb dX3_whirled_53 (by decide) ?_
    refine lv_iand hx hb dX3_whirled_55 ?_
    refine lv_iload hx hb dX3_whirled_56 (lv_at hl 5 rfl) ?_
    refine lv_ior hx hb dX3_whirled_58 ?_
    refine ro_i (runS (As := [.int v3, .int v4, .int (((fX3_typeAt v0 v4) &&& 12) ||| v5)]) (rest := []) cx hl.1 (ctX3_with l g v3 v4 (((fX3_typeAt v0 v4) &&& 12) ||| v5) (fX3_with v3 v4 (((fX3_typeAt v0 v4) &&& 12) ||| v5)) rfl) kmX3_with ksX3_with lm_X3_37 ⟨rfl, rfl⟩ ⟨Nat.le_of_ble_eq_true rfl, Nat.le_of_ble_eq_true rfl⟩ (roS hG (hP.sub [] rfl)) rfl rfl (Nat.le_of_ble_eq_true rfl) dX3_whirled_59 ⟨Nat.le_of_ble_eq_true rfl, Nat.le_of_ble_eq_true rfl⟩) ?_
    refine lv_istore_n (lv' := [(3, .int (fX3_with v3 v4 (((fX3_typeAt v0 v4) &&& 12) ||| v5))), (0, .int v0), (1, .int v1), (2, .int v2), (4, .int v4), (5, .int v5)]) hx hb dX3_whirled_62 rfl hl (by decide) rfl (fun ls hl => ?_)
    refine lv_iinc (v := v4 + 1) (lv' := [(4, .int (v4 + 1)), (3, .int (fX3_with v3 v4 (((fX3_typeAt v0 v4) &&& 12) ||| v5))), (0, .int v0), (1, .int v1), (2, .int v2), (5, .int v5)]) hx hb dX3_whirled_63 hl (k := 4) rfl rfl (by decide) rfl (fun ls hl => ?_)
    refine lv_goto (tgt := 5) hx hb dX3_whirled_66 (by decide) ?_
    exact hk5 v0 v1 v2 (fX3_with v3 v4 (((fX3_typeAt v0 v4) &&& 12) ||| v5)) (v4 + 1) _ (lv_sub hl [2, 3, 4, 1, 0] rfl) h
  have w22 : ∀ (k5 : Int32 → Int32 → Int32 → Int32 → Int32 → Option (Int32)) (hk5 : ∀ (v0 : Int32) (v1 : Int32) (v2 : Int32) (v3 : Int32) (v4 : Int32) (ls : Array Slot), lv_has ls 7 [(0, .int v0), (1, .int v1), (2, .int v2), (3, .int v3), (4, .int v4)] → k5 v0 v1 v2 v3 v4 = some o → W p l e ⟨1, 0, 0, 22⟩ s m args below meth c s.heap [] 0 0 Q (F0 m 5 ls [])) (n : Nat) (v0 : Int32) (v1 : Int32) (v2 : Int32) (v3 : Int32) (v4 : Int32) (v5 : Int32) (v6 : Int32) (ls : Array Slot), lv_has ls 7 [(0, .int v0), (1, .int v1), (2, .int v2), (3, .int v3), (4, .int v4), (5, .int v5), (6, .int v6)] → fX3_whirled_22 k5 n v0 v1 v2 v3 v4 v5 v6 = some o → W p l e ⟨1, 0, 0, 22⟩ s m args below meth c s.heap [] 0 0 Q (F0 m 22 ls []) := by
    intro k5 hk5 n
    induction n with
    | zero => intro v0 v1 v2 v3 v4 v5 v6 ls hl h; cases (fX3_whirled_22_z k5 v0 v1 v2 v3 v4 v5 v6).symm.trans h
    | succ n ih =>
    intro v0 v1 v2 v3 v4 v5 v6 ls hl h
    have h := (fX3_whirled_22_s k5 n v0 v1 v2 v3 v4 v5 v6).symm.trans h
    refine lv_iload hx hb dX3_whirled_22 (lv_at hl 6 rfl) ?_
    refine lv_iload_n hx hb dX3_whirled_24 rfl (lv_at hl 2 rfl) ?_
    refine lv_icmp_ge (tgt := 44) hx hb dX3_whirled_25 (by decide) (fun c2 => ?_) (fun c2 => ?_)
    · have h := itp c2 h
      exact w44 _ hk5 v0 v1 v2 v3 v4 v5 _ (lv_sub hl [0, 1, 2, 3, 4, 5] rfl) h
    · have h := itn c2 h
      refine xs_get cx hG0 va_S.rf 0 rfl lf_X3_33 dX3_whirled_28 ?_
      refine lv_iload hx hb dX3_whirled_31 (lv_at hl 5 rfl) ?_
      refine lv_iconst (v := 3) hx hb dX3_whirled_33 (by decide) ?_
      refine lv_iand hx hb dX3_whirled_34 ?_
      obtain ⟨hi3, h⟩ := chk_out h
      refine xs_ald (v := stF 0 (v5 &&& 3).toNatClampNeg) cx hG0 va_S.rf 0 ⟨rfl, rfl⟩ hi3 rfl dX3_whirled_35 ?_
      refine lv_istore (lv' := [(5, .int (stF 0 (v5 &&& 3).toNatClampNeg)), (0, .int v0), (1, .int v1), (2, .int v2), (3, .int v3), (4, .int v4), (6, .int v6)]) hx hb dX3_whirled_36 hl (by decide) rfl (fun ls hl => ?_)
      refine lv_iinc (v := v6 + 1) (lv' := [(6, .int (v6 + 1)), (5, .int (stF 0 (v5 &&& 3).toNatClampNeg)), (0, .int v0), (1, .int v1), (2, .int v2), (3, .int v3), (4, .int v4)]) hx hb dX3_whirled_38 hl (k := 6) rfl rfl (by decide) rfl (fun ls hl => ?_)
      refine lv_goto (tgt := 22) hx hb dX3_whirled_41 (by decide) ?_
      exact ih v0 v1 v2 v3 v4 (stF 0 (v5 &&& 3).toNatClampNeg) (v6 + 1) _ (lv_sub hl [2, 3, 4, 5, 6, 1, 0] rfl) h
  have w5 : ∀ (n : Nat) (v0 : Int32) (v1 : Int32) (v2 : Int32) (v3 : Int32) (v4 : Int32) (ls : Array Slot), lv_has ls 7 [(0, .int v0), (1, .int v1), (2, .int v2), (3, .int v3), (4, .int v4)] → fX3_whirled_5  n v0 v1 v2 v3 v4 = some o → W p l e ⟨1, 0, 0, 22⟩ s m args below meth c s.heap [] 0 0 Q (F0 m 5 ls []) := by
    intro n
    induction n with
    | zero => intro v0 v1 v2 v3 v4 ls hl h; cases (fX3_whirled_5_z  v0 v1 v2 v3 v4).symm.trans h
    | succ n ih =>
    intro v0 v1 v2 v3 v4 ls hl h
    have h := (fX3_whirled_5_s  n v0 v1 v2 v3 v4).symm.trans h
    refine lv_iload hx hb dX3_whirled_5 (lv_at hl 4 rfl) ?_
    refine lv_iload_n hx hb dX3_whirled_7 rfl (lv_at hl 1 rfl) ?_
    refine lv_icmp_ge (tgt := 69) hx hb dX3_whirled_8 (by decide) (fun c1 => ?_) (fun c1 => ?_)
    · have h := itp c1 h
      refine lv_iload_n hx hb dX3_whirled_69 rfl (lv_at hl 3 rfl) ?_
      exact hret _ _ _ dX3_whirled_70 (Option.some.inj h)
    · have h := itn c1 h
      refine lv_iload_n hx hb dX3_whirled_11 rfl (lv_at hl 0 rfl) ?_
      refine lv_iload hx hb dX3_whirled_12 (lv_at hl 4 rfl) ?_
      refine ro_i (runS (As := [.int v0, .int v4]) (rest := []) cx hl.1 (ctX3_angleAt l g v0 v4 (fX3_angleAt v0 v4) rfl) kmX3_angleAt ksX3_angleAt lm_X3_15 ⟨rfl, rfl⟩ ⟨Nat.le_of_ble_eq_true rfl, Nat.le_of_ble_eq_true rfl⟩ (roS hG (hP.sub [] rfl)) rfl rfl (Nat.le_of_ble_eq_true rfl) dX3_whirled_14 ⟨Nat.le_of_ble_eq_true rfl, Nat.le_of_ble_eq_true rfl⟩) ?_
      refine lv_istore (lv' := [(5, .int (fX3_angleAt v0 v4)), (0, .int v0), (1, .int v1), (2, .int v2), (3, .int v3), (4, .int v4)]) hx hb dX3_whirled_17 hl (by decide) rfl (fun ls hl => ?_)
      refine lv_iconst (v := 0) hx hb dX3_whirled_19 (by decide) ?_
      refine lv_istore (lv' := [(6, .int (0)), (5, .int (fX3_angleAt v0 v4)), (0, .int v0), (1, .int v1), (2, .int v2), (3, .int v3), (4, .int v4)]) hx hb dX3_whirled_20 hl (by decide) rfl (fun ls hl => ?_)
      exact w22 _ ih FU v0 v1 v2 v3 v4 (fX3_angleAt v0 v4) 0 _ (lv_sub hl [2, 3, 4, 5, 6, 1, 0] rfl) h
  unfold fX3_whirled at h
  refine lv_iload_n hx hb dX3_whirled_0 rfl (lv_at hl 0 rfl) ?_
  refine lv_istore_n (lv' := [(3, .int v0), (0, .int v0), (1, .int v1), (2, .int v2)]) hx hb dX3_whirled_1 rfl hl (by decide) rfl (fun ls hl => ?_)
  refine lv_iconst (v := 0) hx hb dX3_whirled_2 (by decide) ?_
  refine lv_istore (lv' := [(4, .int (0)), (3, .int v0), (0, .int v0), (1, .int v1), (2, .int v2)]) hx hb dX3_whirled_3 hl (by decide) rfl (fun ls hl => ?_)
  exact w5 FU v0 v1 v2 v0 0 _ (lv_sub hl [2, 3, 4, 1, 0] rfl) h
-- X3_overturned
theorem dX3_overturned_0 : decode cX3_overturned 0 = .ok (.iconst 0, 1) := by decide +kernel
theorem dX3_overturned_1 : decode cX3_overturned 1 = .ok (.istore_n 2, 1) := by decide +kernel
theorem dX3_overturned_2 : decode cX3_overturned 2 = .ok (.iconst 0, 1) := by decide +kernel
theorem dX3_overturned_3 : decode cX3_overturned 3 = .ok (.istore_n 3, 1) := by decide +kernel
theorem dX3_overturned_4 : decode cX3_overturned 4 = .ok (.iload_n 3, 1) := by decide +kernel
theorem dX3_overturned_5 : decode cX3_overturned 5 = .ok (.iload_n 1, 1) := by decide +kernel
theorem dX3_overturned_6 : decode cX3_overturned 6 = .ok (.if_icmp .ge 41, 3) := by decide +kernel
theorem dX3_overturned_9 : decode cX3_overturned 9 = .ok (.iload_n 0, 1) := by decide +kernel
theorem dX3_overturned_10 : decode cX3_overturned 10 = .ok (.iload_n 1, 1) := by decide +kernel
theorem dX3_overturned_11 : decode cX3_overturned 11 = .ok (.iconst 1, 1) := by decide +kernel
theorem dX3_overturned_12 : decode cX3_overturned 12 = .ok (.isub, 1) := by decide +kernel
theorem dX3_overturned_13 : decode cX3_overturned 13 = .ok (.iload_n 3, 1) := by decide +kernel
theorem dX3_overturned_14 : decode cX3_overturned 14 = .ok (.isub, 1) := by decide +kernel
theorem dX3_overturned_15 : decode cX3_overturned 15 = .ok (.invokestatic 9, 3) := by decide +kernel
theorem dX3_overturned_18 : decode cX3_overturned 18 = .ok (.istore 4, 2) := by decide +kernel
theorem dX3_overturned_20 : decode cX3_overturned 20 = .ok (.iload_n 2, 1) := by decide +kernel
theorem dX3_overturned_21 : decode cX3_overturned 21 = .ok (.iload 4, 2) := by decide +kernel
theorem dX3_overturned_23 : decode cX3_overturned 23 = .ok (.bipush 12, 2) := by decide +kernel
theorem dX3_overturned_25 : decode cX3_overturned 25 = .ok (.iand, 1) := by decide +kernel
theorem dX3_overturned_26 : decode cX3_overturned 26 = .ok (.getstatic 41, 3) := by decide +kernel
theorem dX3_overturned_29 : decode cX3_overturned 29 = .ok (.iload 4, 2) := by decide +kernel
theorem dX3_overturned_31 : decode cX3_overturned 31 = .ok (.iconst 3, 1) := by decide +kernel
theorem dX3_overturned_32 : decode cX3_overturned 32 = .ok (.iand, 1) := by decide +kernel
theorem dX3_overturned_33 : decode cX3_overturned 33 = .ok (.iaload, 1) := by decide +kernel
theorem dX3_overturned_34 : decode cX3_overturned 34 = .ok (.ior, 1) := by decide +kernel
theorem dX3_overturned_35 : decode cX3_overturned 35 = .ok (.iconst 4, 1) := by decide +kernel
theorem dX3_overturned_36 : decode cX3_overturned 36 = .ok (.iload_n 3, 1) := by decide +kernel
theorem dX3_overturned_37 : decode cX3_overturned 37 = .ok (.imul, 1) := by decide +kernel
theorem dX3_overturned_38 : decode cX3_overturned 38 = .ok (.ishl, 1) := by decide +kernel
theorem dX3_overturned_39 : decode cX3_overturned 39 = .ok (.ior, 1) := by decide +kernel
theorem dX3_overturned_40 : decode cX3_overturned 40 = .ok (.istore_n 2, 1) := by decide +kernel
theorem dX3_overturned_41 : decode cX3_overturned 41 = .ok (.iinc 3 1, 3) := by decide +kernel
theorem dX3_overturned_44 : decode cX3_overturned 44 = .ok (.goto (-40), 3) := by decide +kernel
theorem dX3_overturned_47 : decode cX3_overturned 47 = .ok (.iload_n 2, 1) := by decide +kernel
theorem dX3_overturned_48 : decode cX3_overturned 48 = .ok (.ireturn, 1) := by decide +kernel
noncomputable def fX3_overturned_4  : Nat → Int32 → Int32 → Int32 → Int32 → Option (Int32)
  | 0, _, _, _, _ => none
  | n + 1, v0, v1, v2, v3 => (if v1 ≤ v3 then some v2 else chk 4 ((fX3_typeAt v0 ((v1 - 1) - v3)) &&& 3) (fX3_overturned_4 n v0 v1 (v2 ||| ((((fX3_typeAt v0 ((v1 - 1) - v3)) &&& 12) ||| (stF 1 ((fX3_typeAt v0 ((v1 - 1) - v3)) &&& 3).toNatClampNeg)) <<< ((4 * v3) &&& 31))) (v3 + 1)))
theorem fX3_overturned_4_z  (v0 : Int32) (v1 : Int32) (v2 : Int32) (v3 : Int32) : fX3_overturned_4  0 v0 v1 v2 v3 = none := rfl
theorem fX3_overturned_4_s  (n : Nat) (v0 : Int32) (v1 : Int32) (v2 : Int32) (v3 : Int32) : fX3_overturned_4  (n + 1) v0 v1 v2 v3 = (if v1 ≤ v3 then some v2 else chk 4 ((fX3_typeAt v0 ((v1 - 1) - v3)) &&& 3) (fX3_overturned_4 n v0 v1 (v2 ||| ((((fX3_typeAt v0 ((v1 - 1) - v3)) &&& 12) ||| (stF 1 ((fX3_typeAt v0 ((v1 - 1) - v3)) &&& 3).toNatClampNeg)) <<< ((4 * v3) &&& 31))) (v3 + 1))) := rfl
noncomputable def fX3_overturned  (v0 : Int32) (v1 : Int32) : Option (Int32) := fX3_overturned_4 FU v0 v1 0 0
set_option maxHeartbeats 4000000 in
set_option maxRecDepth 100000 in
theorem ctX3_overturned (l : Launch) (g : GT) (v0 : Int32) (v1 : Int32) (o : Int32) (h : fX3_overturned v0 v1 = some o) : Met l yX3_overturned (Cond.code yX3_overturned cX3_overturned 5 (some .int) :: Tw) ⟨1, 0, 0, 21⟩ (va_Pc [.int v0, .int v1] (roB g [])) (vp_Si (fun x => x = o)) 0 0 (fun _ => False) := by
  refine ro_meti (by decide) (Nat.le_of_ble_eq_true rfl) (lv0 := [(0, .int v0), (1, .int v1)]) rfl ?_
  intro p e s m args below meth c ls Q cx hret hG hP hl
  have hx := cx.1
  have hb := cx.2.1
  have hG0 := hG
  have w4 : ∀ (n : Nat) (v0 : Int32) (v1 : Int32) (v2 : Int32) (v3 : Int32) (ls : Array Slot), lv_has ls 5 [(0, .int v0), (1, .int v1), (2, .int v2), (3, .int v3)] → fX3_overturned_4  n v0 v1 v2 v3 = some o → W p l e ⟨1, 0, 0, 21⟩ s m args below meth c s.heap [] 0 0 Q (F0 m 4 ls []) := by
    intro n
    induction n with
    | zero => intro v0 v1 v2 v3 ls hl h; cases (fX3_overturned_4_z  v0 v1 v2 v3).symm.trans h
    | succ n ih =>
    intro v0 v1 v2 v3 ls hl h
    have h := (fX3_overturned_4_s  n v0 v1 v2 v3).symm.trans h
    refine lv_iload_n hx hb dX3_overturned_4 rfl (lv_at hl 3 rfl) ?_
    refine lv_iload_n hx hb dX3_overturned_5 rfl (lv_at hl 1 rfl) ?_
    refine lv_icmp_ge (tgt := 47) hx hb dX3_overturned_6 (by decide) (fun c1 => ?_) (fun c1 => ?_)
    · have h := itp c1 h
      refine lv_iload_n hx hb dX3_overturned_47 rfl (lv_at hl 2 rfl) ?_
      exact hret _ _ _ dX3_overturned_48 (Option.some.inj h)
    · have h := itn c1 h
      refine lv_iload_n hx hb dX3_overturned_9 rfl (lv_at hl 0 rfl) ?_
      refine lv_iload_n hx hb dX3_overturned_10 rfl (lv_at hl 1 rfl) ?_
      refine lv_iconst (v := 1) hx hb dX3_overturned_11 (by decide) ?_
      refine lv_isub hx hb dX3_overturned_12 ?_
      refine lv_iload_n hx hb dX3_overturned_13 rfl (lv_at hl 3 rfl) ?_
      refine lv_isub hx hb dX3_overturned_14 ?_
      refine ro_i (runS (As := [.int v0, .int ((v1 - 1) - v3)]) (rest := []) cx hl.1 (ctX3_typeAt l g v0 ((v1 - 1) - v3) (fX3_typeAt v0 ((v1 - 1) - v3)) rfl) kmX3_typeAt ksX3_typeAt lm_X3_9 ⟨rfl, rfl⟩ ⟨Nat.le_of_ble_eq_true rfl, Nat.le_of_ble_eq_true rfl⟩ (roS hG (hP.sub [] rfl)) rfl rfl (Nat.le_of_ble_eq_true rfl) dX3_overturned_15 ⟨Nat.le_of_ble_eq_true rfl, Nat.le_of_ble_eq_true rfl⟩) ?_
      refine lv_istore (lv' := [(4, .int (fX3_typeAt v0 ((v1 - 1) - v3))), (0, .int v0), (1, .int v1), (2, .int v2), (3, .int v3)]) hx hb dX3_overturned_18 hl (by decide) rfl (fun ls hl => ?_)
      refine lv_iload_n hx hb dX3_overturned_20 rfl (lv_at hl 3 rfl) ?_
      refine lv_iload hx hb dX3_overturned_21 (lv_at hl 0 rfl) ?_
      refine lv_bipush (v := 12) hx hb dX3_overturned_23 (by decide) ?_
      refine lv_iand hx hb dX3_overturned_25 ?_
      refine xs_get cx hG0 va_S.rf 1 rfl lf_X3_41 dX3_overturned_26 ?_
      refine lv_iload hx hb dX3_overturned_29 (lv_at hl 0 rfl) ?_
      refine lv_iconst (v := 3) hx hb dX3_overturned_31 (by decide) ?_
      refine lv_iand hx hb dX3_overturned_32 ?_
      obtain ⟨hi2, h⟩ := chk_out h
      refine xs_ald (v := stF 1 ((fX3_typeAt v0 ((v1 - 1) - v3)) &&& 3).toNatClampNeg) cx hG0 va_S.rf 1 ⟨rfl, rfl⟩ hi2 rfl dX3_overturned_33 ?_
      refine lv_ior hx hb dX3_overturned_34 ?_
      refine lv_iconst (v := 4) hx hb dX3_overturned_35 (by decide) ?_
      refine lv_iload_n hx hb dX3_overturned_36 rfl (lv_at hl 4 rfl) ?_
      refine lv_imul hx hb dX3_overturned_37 ?_
      refine lv_ishl hx hb dX3_overturned_38 ?_
      refine lv_ior hx hb dX3_overturned_39 ?_
      refine lv_istore_n (lv' := [(2, .int (v2 ||| ((((fX3_typeAt v0 ((v1 - 1) - v3)) &&& 12) ||| (stF 1 ((fX3_typeAt v0 ((v1 - 1) - v3)) &&& 3).toNatClampNeg)) <<< ((4 * v3) &&& 31)))), (4, .int (fX3_typeAt v0 ((v1 - 1) - v3))), (0, .int v0), (1, .int v1), (3, .int v3)]) hx hb dX3_overturned_40 rfl hl (by decide) rfl (fun ls hl => ?_)
      refine lv_iinc (v := v3 + 1) (lv' := [(3, .int (v3 + 1)), (2, .int (v2 ||| ((((fX3_typeAt v0 ((v1 - 1) - v3)) &&& 12) ||| (stF 1 ((fX3_typeAt v0 ((v1 - 1) - v3)) &&& 3).toNatClampNeg)) <<< ((4 * v3) &&& 31)))), (4, .int (fX3_typeAt v0 ((v1 - 1) - v3))), (0, .int v0), (1, .int v1)]) hx hb dX3_overturned_41 hl (k := 4) rfl rfl (by decide) rfl (fun ls hl => ?_)
      refine lv_goto (tgt := 4) hx hb dX3_overturned_44 (by decide) ?_
      exact ih v0 v1 (v2 ||| ((((fX3_typeAt v0 ((v1 - 1) - v3)) &&& 12) ||| (stF 1 ((fX3_typeAt v0 ((v1 - 1) - v3)) &&& 3).toNatClampNeg)) <<< ((4 * v3) &&& 31))) (v3 + 1) _ (lv_sub hl [3, 4, 1, 0] rfl) h
  unfold fX3_overturned at h
  refine lv_iconst (v := 0) hx hb dX3_overturned_0 (by decide) ?_
  refine lv_istore_n (lv' := [(2, .int (0)), (0, .int v0), (1, .int v1)]) hx hb dX3_overturned_1 rfl hl (by decide) rfl (fun ls hl => ?_)
  refine lv_iconst (v := 0) hx hb dX3_overturned_2 (by decide) ?_
  refine lv_istore_n (lv' := [(3, .int (0)), (2, .int (0)), (0, .int v0), (1, .int v1)]) hx hb dX3_overturned_3 rfl hl (by decide) rfl (fun ls hl => ?_)
  exact w4 FU v0 v1 0 0 _ (lv_sub hl [2, 3, 1, 0] rfl) h
-- X1_clear
theorem dX1_clear_0 : decode cX1_clear 0 = .ok (.aload_n 0, 1) := by decide +kernel
theorem dX1_clear_1 : decode cX1_clear 1 = .ok (.iconst 0, 1) := by decide +kernel
theorem dX1_clear_2 : decode cX1_clear 2 = .ok (.putfield 27, 3) := by decide +kernel
theorem dX1_clear_5 : decode cX1_clear 5 = .ok (.aload_n 0, 1) := by decide +kernel
theorem dX1_clear_6 : decode cX1_clear 6 = .ok (.iconst 0, 1) := by decide +kernel
theorem dX1_clear_7 : decode cX1_clear 7 = .ok (.putfield 31, 3) := by decide +kernel
theorem dX1_clear_10 : decode cX1_clear 10 = .ok (.aload_n 0, 1) := by decide +kernel
theorem dX1_clear_11 : decode cX1_clear 11 = .ok (.iconst 0, 1) := by decide +kernel
theorem dX1_clear_12 : decode cX1_clear 12 = .ok (.putfield 35, 3) := by decide +kernel
theorem dX1_clear_15 : decode cX1_clear 15 = .ok (.aload_n 0, 1) := by decide +kernel
theorem dX1_clear_16 : decode cX1_clear 16 = .ok (.iconst 0, 1) := by decide +kernel
theorem dX1_clear_17 : decode cX1_clear 17 = .ok (.putfield 38, 3) := by decide +kernel
theorem dX1_clear_20 : decode cX1_clear 20 = .ok (.aload_n 0, 1) := by decide +kernel
theorem dX1_clear_21 : decode cX1_clear 21 = .ok (.getfield 18, 3) := by decide +kernel
theorem dX1_clear_24 : decode cX1_clear 24 = .ok (.iconst 0, 1) := by decide +kernel
theorem dX1_clear_25 : decode cX1_clear 25 = .ok (.iconst 0, 1) := by decide +kernel
theorem dX1_clear_26 : decode cX1_clear 26 = .ok (.iastore, 1) := by decide +kernel
theorem dX1_clear_27 : decode cX1_clear 27 = .ok (.aload_n 0, 1) := by decide +kernel
theorem dX1_clear_28 : decode cX1_clear 28 = .ok (.getfield 21, 3) := by decide +kernel
theorem dX1_clear_31 : decode cX1_clear 31 = .ok (.iconst 0, 1) := by decide +kernel
theorem dX1_clear_32 : decode cX1_clear 32 = .ok (.iconst 0, 1) := by decide +kernel
theorem dX1_clear_33 : decode cX1_clear 33 = .ok (.iastore, 1) := by decide +kernel
theorem dX1_clear_34 : decode cX1_clear 34 = .ok (.aload_n 0, 1) := by decide +kernel
theorem dX1_clear_35 : decode cX1_clear 35 = .ok (.getfield 24, 3) := by decide +kernel
theorem dX1_clear_38 : decode cX1_clear 38 = .ok (.iconst 0, 1) := by decide +kernel
theorem dX1_clear_39 : decode cX1_clear 39 = .ok (.iconst 0, 1) := by decide +kernel
theorem dX1_clear_40 : decode cX1_clear 40 = .ok (.iastore, 1) := by decide +kernel
theorem dX1_clear_41 : decode cX1_clear 41 = .ok (.return_, 1) := by decide +kernel
noncomputable def fX1_clear  (t_rows : Nat → Int32) (t_sizes : Nat → Int32) (t_rooms : Nat → Int32) (t_told : Int32) (t_lines : Int32) (t_kinds : Int32) (t_acts : Int32) : Option ((Nat → Int32) × (Nat → Int32) × (Nat → Int32) × Int32 × Int32 × Int32 × Int32) := some (upd t_rows 0 0, upd t_sizes 0 0, upd t_rooms 0 0, 0, 0, 0, 0)
set_option maxHeartbeats 4000000 in
set_option maxRecDepth 100000 in
theorem ctX1_clear (l : Launch) (g : GT) (sz : Nat) (a_t : Nat → Nat) (t_told : Int32) (t_lines : Int32) (t_kinds : Int32) (t_acts : Int32) (t_rows : Nat → Int32) (t_sizes : Nat → Int32) (t_rooms : Nat → Int32) (o_t_rows : Nat → Int32) (o_t_sizes : Nat → Int32) (o_t_rooms : Nat → Int32) (o_t_told : Int32) (o_t_lines : Int32) (o_t_kinds : Int32) (o_t_acts : Int32) (h : fX1_clear t_rows t_sizes t_rooms t_told t_lines t_kinds t_acts = some (o_t_rows, o_t_sizes, o_t_rooms, o_t_told, o_t_lines, o_t_kinds, o_t_acts)) : Met l yX1_clear (Cond.code yX1_clear cX1_clear 1 none :: Tw) ⟨0, 0, 0, 0⟩ (va_Pc [.ref ((a_t 0))] (rwB g [((a_t 0), .inr (1, [.ref (a_t 1), .ref (a_t 2), .ref (a_t 3), .ref (a_t 4), .ref (a_t 5), .int t_told, .int t_lines, .int t_kinds, .int t_acts])), ((a_t 3), .inl (g.2.2.1 0, 31, .inl t_rows)), ((a_t 4), .inl (g.2.2.1 0, 31, .inl t_sizes)), ((a_t 5), .inl (g.2.2.1 0, 31, .inl t_rooms))] sz)) (va_Qv (fun (_ : Nat → Nat) => True) (fun u => rwE g (va_A [((a_t 0), .inr (1, [.ref (a_t 1), .ref (a_t 2), .ref (a_t 3), .ref (a_t 4), .ref (a_t 5), .int t_told, .int t_lines, .int t_kinds, .int t_acts])), ((a_t 3), .inl (g.2.2.1 0, 31, .inl t_rows)), ((a_t 4), .inl (g.2.2.1 0, 31, .inl t_sizes)), ((a_t 5), .inl (g.2.2.1 0, 31, .inl t_rooms))] sz) [((a_t 0), .inr (1, [.ref (a_t 1), .ref (a_t 2), .ref (a_t 3), .ref (a_t 4), .ref (a_t 5), .int o_t_told, .int o_t_lines, .int o_t_kinds, .int o_t_acts])), ((a_t 3), .inl (g.2.2.1 0, 31, .inl o_t_rows)), ((a_t 4), .inl (g.2.2.1 0, 31, .inl o_t_sizes)), ((a_t 5), .inl (g.2.2.1 0, 31, .inl o_t_rooms))]) (va_A [((a_t 0), .inr (1, [.ref (a_t 1), .ref (a_t 2), .ref (a_t 3), .ref (a_t 4), .ref (a_t 5), .int t_told, .int t_lines, .int t_kinds, .int t_acts])), ((a_t 3), .inl (g.2.2.1 0, 31, .inl t_rows)), ((a_t 4), .inl (g.2.2.1 0, 31, .inl t_sizes)), ((a_t 5), .inl (g.2.2.1 0, 31, .inl t_rooms))] sz)) 0 0 (va_A [((a_t 0), .inr (1, [.ref (a_t 1), .ref (a_t 2), .ref (a_t 3), .ref (a_t 4), .ref (a_t 5), .int t_told, .int t_lines, .int t_kinds, .int t_acts])), ((a_t 3), .inl (g.2.2.1 0, 31, .inl t_rows)), ((a_t 4), .inl (g.2.2.1 0, 31, .inl t_sizes)), ((a_t 5), .inl (g.2.2.1 0, 31, .inl t_rooms))] sz) := by
  refine rw_metv (by decide) (Nat.le_of_ble_eq_true rfl) (lv0 := [(0, .ref ((a_t 0)))]) rfl ?_
  intro p e s m args below meth c ls Q A cx hret hG hAb hb0 hA hP hD hl
  have hx := cx.1
  have hb := cx.2.1
  have hG0 := hG
  have hGk : ∀ {H : Heap} {locs : List Loc}, va_S A s.heap H locs → GE g s H := fun hS => hG0.keptS hAb hS
  have hSb : ∀ {H : Heap} {locs : List Loc}, va_S A s.heap H locs → va_S (fun a => g.1 ≤ a) s.heap H locs := fun hS => ⟨hS.1, fun q h1 h2 => hS.2.1 q h1 (fun z => h2 (hAb q z)), fun l hl => hAb _ (hS.2.2 l hl)⟩
  have hS : va_S A s.heap s.heap [] := va_S.rf
  have hrt : ∀ (u : Nat → Nat) (pc : Nat) (ls : Array Slot) (x_t_rows : Nat → Int32) (x_t_sizes : Nat → Int32) (x_t_rooms : Nat → Int32) (x_t_told : Int32) (x_t_lines : Int32) (x_t_kinds : Int32) (x_t_acts : Int32) (H : Heap) (locs : List Loc), decode cX1_clear pc = .ok (.return_, 1) → some (x_t_rows, x_t_sizes, x_t_rooms, x_t_told, x_t_lines, x_t_kinds, x_t_acts) = some (o_t_rows, o_t_sizes, o_t_rooms, o_t_told, o_t_lines, o_t_kinds, o_t_acts) → va_P g.2.1 vwCl [((a_t 0), .inr (1, [.ref (a_t 1), .ref (a_t 2), .ref (a_t 3), .ref (a_t 4), .ref (a_t 5), .int x_t_told, .int x_t_lines, .int x_t_kinds, .int x_t_acts])), ((a_t 3), .inl (g.2.2.1 0, 31, .inl x_t_rows)), ((a_t 4), .inl (g.2.2.1 0, 31, .inl x_t_sizes)), ((a_t 5), .inl (g.2.2.1 0, 31, .inl x_t_rooms))] H → va_D A [((a_t 0), .inr (1, [.ref (a_t 1), .ref (a_t 2), .ref (a_t 3), .ref (a_t 4), .ref (a_t 5), .int x_t_told, .int x_t_lines, .int x_t_kinds, .int x_t_acts])), ((a_t 3), .inl (g.2.2.1 0, 31, .inl x_t_rows)), ((a_t 4), .inl (g.2.2.1 0, 31, .inl x_t_sizes)), ((a_t 5), .inl (g.2.2.1 0, 31, .inl x_t_rooms))] → va_S A s.heap H locs → W p l e ⟨0, 0, 0, 0⟩ s m args below meth c H locs 0 0 Q (F0 m pc ls []) := by
    intro u pc ls x_t_rows x_t_sizes x_t_rooms x_t_told x_t_lines x_t_kinds x_t_acts H locs hd h hP hD hS
    cases h
    exact hret u _ _ _ _ hd hP hD hS
  unfold fX1_clear at h
  refine lv_aload_n hx hb dX1_clear_0 rfl (lv_at hl 0 rfl) ?_
  refine lv_iconst (v := 0) hx hb dX1_clear_1 (by decide) ?_
  refine xw_put (C := RX1) (T := TX1) (N := 9) (ty := .boolean) (v := .int (0)) (ws' := [((a_t 0), .inr (1, [.ref (a_t 1), .ref (a_t 2), .ref (a_t 3), .ref (a_t 4), .ref (a_t 5), .int 0, .int t_lines, .int t_kinds, .int t_acts])), ((a_t 3), .inl (g.2.2.1 0, 31, .inl t_rows)), ((a_t 4), .inl (g.2.2.1 0, 31, .inl t_sizes)), ((a_t 5), .inl (g.2.2.1 0, 31, .inl t_rooms))]) cx hG hP hD hS 0 rfl rfl uX1 tyX1 tyX1_ok nmX1 5 (by decide) lf_X1_27 rfl (by decide +kernel) rfl rfl (Nat.le_of_ble_eq_true rfl) rfl dX1_clear_2 (fun H locs hP hD hS => ?_)
  have hG := hGk hS
  refine lv_aload_n hx hb dX1_clear_5 rfl (lv_at hl 0 rfl) ?_
  refine lv_iconst (v := 0) hx hb dX1_clear_6 (by decide) ?_
  refine xw_put (C := RX1) (T := TX1) (N := 9) (ty := .int) (v := .int (0)) (ws' := [((a_t 0), .inr (1, [.ref (a_t 1), .ref (a_t 2), .ref (a_t 3), .ref (a_t 4), .ref (a_t 5), .int 0, .int 0, .int t_kinds, .int t_acts])), ((a_t 3), .inl (g.2.2.1 0, 31, .inl t_rows)), ((a_t 4), .inl (g.2.2.1 0, 31, .inl t_sizes)), ((a_t 5), .inl (g.2.2.1 0, 31, .inl t_rooms))]) cx hG hP hD hS 0 rfl rfl uX1 tyX1 tyX1_ok nmX1 6 (by decide) lf_X1_31 rfl (by decide +kernel) rfl rfl (Nat.le_of_ble_eq_true rfl) rfl dX1_clear_7 (fun H locs hP hD hS => ?_)
  have hG := hGk hS
  refine lv_aload_n hx hb dX1_clear_10 rfl (lv_at hl 0 rfl) ?_
  refine lv_iconst (v := 0) hx hb dX1_clear_11 (by decide) ?_
  refine xw_put (C := RX1) (T := TX1) (N := 9) (ty := .int) (v := .int (0)) (ws' := [((a_t 0), .inr (1, [.ref (a_t 1), .ref (a_t 2), .ref (a_t 3), .ref (a_t 4), .ref (a_t 5), .int 0, .int 0, .int 0, .int t_acts])), ((a_t 3), .inl (g.2.2.1 0, 31, .inl t_rows)), ((a_t 4), .inl (g.2.2.1 0, 31, .inl t_sizes)), ((a_t 5), .inl (g.2.2.1 0, 31, .inl t_rooms))]) cx hG hP hD hS 0 rfl rfl uX1 tyX1 tyX1_ok nmX1 7 (by decide) lf_X1_35 rfl (by decide +kernel) rfl rfl (Nat.le_of_ble_eq_true rfl) rfl dX1_clear_12 (fun H locs hP hD hS => ?_)
  have hG := hGk hS
  refine lv_aload_n hx hb dX1_clear_15 rfl (lv_at hl 0 rfl) ?_
  refine lv_iconst (v := 0) hx hb dX1_clear_16 (by decide) ?_
  refine xw_put (C := RX1) (T := TX1) (N := 9) (ty := .int) (v := .int (0)) (ws' := [((a_t 0), .inr (1, [.ref (a_t 1), .ref (a_t 2), .ref (a_t 3), .ref (a_t 4), .ref (a_t 5), .int 0, .int 0, .int 0, .int 0])), ((a_t 3), .inl (g.2.2.1 0, 31, .inl t_rows)), ((a_t 4), .inl (g.2.2.1 0, 31, .inl t_sizes)), ((a_t 5), .inl (g.2.2.1 0, 31, .inl t_rooms))]) cx hG hP hD hS 0 rfl rfl uX1 tyX1 tyX1_ok nmX1 8 (by decide) lf_X1_38 rfl (by decide +kernel) rfl rfl (Nat.le_of_ble_eq_true rfl) rfl dX1_clear_17 (fun H locs hP hD hS => ?_)
  have hG := hGk hS
  refine lv_aload_n hx hb dX1_clear_20 rfl (lv_at hl 0 rfl) ?_
  refine xa_get (C := RX1) (T := TX1) (N := 9) cx hG hP 0 rfl rfl uX1 2 (by decide) lf_X1_18 rfl dX1_clear_21 ?_
  refine lv_iconst (v := 0) hx hb dX1_clear_24 (by decide) ?_
  refine lv_iconst (v := 0) hx hb dX1_clear_25 (by decide) ?_
  refine xw_iast (ws' := [((a_t 0), .inr (1, [.ref (a_t 1), .ref (a_t 2), .ref (a_t 3), .ref (a_t 4), .ref (a_t 5), .int 0, .int 0, .int 0, .int 0])), ((a_t 3), .inl (g.2.2.1 0, 31, .inl (upd t_rows 0 0))), ((a_t 4), .inl (g.2.2.1 0, 31, .inl t_sizes)), ((a_t 5), .inl (g.2.2.1 0, 31, .inl t_rooms))]) (k := 0) cx hG hP hD hS 1 rfl (show ¬ ((0 : Int32) < 0 ∨ 31 ≤ (0 : Int32).toNatClampNeg) by decide) (by decide) rfl dX1_clear_26 (fun H locs hP hD hS => ?_)
  have hG := hGk hS
  refine lv_aload_n hx hb dX1_clear_27 rfl (lv_at hl 0 rfl) ?_
  refine xa_get (C := RX1) (T := TX1) (N := 9) cx hG hP 0 rfl rfl uX1 3 (by decide) lf_X1_21 rfl dX1_clear_28 ?_
  refine lv_iconst (v := 0) hx hb dX1_clear_31 (by decide) ?_
  refine lv_iconst (v := 0) hx hb dX1_clear_32 (by decide) ?_
  refine xw_iast (ws' := [((a_t 0), .inr (1, [.ref (a_t 1), .ref (a_t 2), .ref (a_t 3), .ref (a_t 4), .ref (a_t 5), .int 0, .int 0, .int 0, .int 0])), ((a_t 3), .inl (g.2.2.1 0, 31, .inl (upd t_rows 0 0))), ((a_t 4), .inl (g.2.2.1 0, 31, .inl (upd t_sizes 0 0))), ((a_t 5), .inl (g.2.2.1 0, 31, .inl t_rooms))]) (k := 0) cx hG hP hD hS 2 rfl (show ¬ ((0 : Int32) < 0 ∨ 31 ≤ (0 : Int32).toNatClampNeg) by decide) (by decide) rfl dX1_clear_33 (fun H locs hP hD hS => ?_)
  have hG := hGk hS
  refine lv_aload_n hx hb dX1_clear_34 rfl (lv_at hl 0 rfl) ?_
  refine xa_get (C := RX1) (T := TX1) (N := 9) cx hG hP 0 rfl rfl uX1 4 (by decide) lf_X1_24 rfl dX1_clear_35 ?_
  refine lv_iconst (v := 0) hx hb dX1_clear_38 (by decide) ?_
  refine lv_iconst (v := 0) hx hb dX1_clear_39 (by decide) ?_
  refine xw_iast (ws' := [((a_t 0), .inr (1, [.ref (a_t 1), .ref (a_t 2), .ref (a_t 3), .ref (a_t 4), .ref (a_t 5), .int 0, .int 0, .int 0, .int 0])), ((a_t 3), .inl (g.2.2.1 0, 31, .inl (upd t_rows 0 0))), ((a_t 4), .inl (g.2.2.1 0, 31, .inl (upd t_sizes 0 0))), ((a_t 5), .inl (g.2.2.1 0, 31, .inl (upd t_rooms 0 0)))]) (k := 0) cx hG hP hD hS 3 rfl (show ¬ ((0 : Int32) < 0 ∨ 31 ≤ (0 : Int32).toNatClampNeg) by decide) (by decide) rfl dX1_clear_40 (fun H locs hP hD hS => ?_)
  have hG := hGk hS
  exact hrt (fun _ => 0) _ _ (upd t_rows 0 0) (upd t_sizes 0 0) (upd t_rooms 0 0) (0) (0) (0) (0) _ _ dX1_clear_41 h (hP.sub [0, 1, 2, 3] rfl) (hD.sub [0, 1, 2, 3] (by decide) rfl) hS
-- X1_copy
theorem dX1_copy_0 : decode cX1_copy 0 = .ok (.aload_n 1, 1) := by decide +kernel
theorem dX1_copy_1 : decode cX1_copy 1 = .ok (.getfield 9, 3) := by decide +kernel
theorem dX1_copy_4 : decode cX1_copy 4 = .ok (.iconst 0, 1) := by decide +kernel
theorem dX1_copy_5 : decode cX1_copy 5 = .ok (.aload_n 0, 1) := by decide +kernel
theorem dX1_copy_6 : decode cX1_copy 6 = .ok (.getfield 9, 3) := by decide +kernel
theorem dX1_copy_9 : decode cX1_copy 9 = .ok (.iconst 0, 1) := by decide +kernel
theorem dX1_copy_10 : decode cX1_copy 10 = .ok (.aload_n 0, 1) := by decide +kernel
theorem dX1_copy_11 : decode cX1_copy 11 = .ok (.getfield 9, 3) := by decide +kernel
theorem dX1_copy_14 : decode cX1_copy 14 = .ok (.arraylength, 1) := by decide +kernel
theorem dX1_copy_15 : decode cX1_copy 15 = .ok (.invokestatic 41, 3) := by decide +kernel
theorem dX1_copy_18 : decode cX1_copy 18 = .ok (.aload_n 1, 1) := by decide +kernel
theorem dX1_copy_19 : decode cX1_copy 19 = .ok (.getfield 15, 3) := by decide +kernel
theorem dX1_copy_22 : decode cX1_copy 22 = .ok (.iconst 0, 1) := by decide +kernel
theorem dX1_copy_23 : decode cX1_copy 23 = .ok (.aload_n 0, 1) := by decide +kernel
theorem dX1_copy_24 : decode cX1_copy 24 = .ok (.getfield 15, 3) := by decide +kernel
theorem dX1_copy_27 : decode cX1_copy 27 = .ok (.iconst 0, 1) := by decide +kernel
theorem dX1_copy_28 : decode cX1_copy 28 = .ok (.aload_n 0, 1) := by decide +kernel
theorem dX1_copy_29 : decode cX1_copy 29 = .ok (.getfield 15, 3) := by decide +kernel
theorem dX1_copy_32 : decode cX1_copy 32 = .ok (.arraylength, 1) := by decide +kernel
theorem dX1_copy_33 : decode cX1_copy 33 = .ok (.invokestatic 41, 3) := by decide +kernel
theorem dX1_copy_36 : decode cX1_copy 36 = .ok (.aload_n 1, 1) := by decide +kernel
theorem dX1_copy_37 : decode cX1_copy 37 = .ok (.getfield 18, 3) := by decide +kernel
theorem dX1_copy_40 : decode cX1_copy 40 = .ok (.iconst 0, 1) := by decide +kernel
theorem dX1_copy_41 : decode cX1_copy 41 = .ok (.aload_n 0, 1) := by decide +kernel
theorem dX1_copy_42 : decode cX1_copy 42 = .ok (.getfield 18, 3) := by decide +kernel
theorem dX1_copy_45 : decode cX1_copy 45 = .ok (.iconst 0, 1) := by decide +kernel
theorem dX1_copy_46 : decode cX1_copy 46 = .ok (.aload_n 0, 1) := by decide +kernel
theorem dX1_copy_47 : decode cX1_copy 47 = .ok (.getfield 18, 3) := by decide +kernel
theorem dX1_copy_50 : decode cX1_copy 50 = .ok (.arraylength, 1) := by decide +kernel
theorem dX1_copy_51 : decode cX1_copy 51 = .ok (.invokestatic 41, 3) := by decide +kernel
theorem dX1_copy_54 : decode cX1_copy 54 = .ok (.aload_n 1, 1) := by decide +kernel
theorem dX1_copy_55 : decode cX1_copy 55 = .ok (.getfield 21, 3) := by decide +kernel
theorem dX1_copy_58 : decode cX1_copy 58 = .ok (.iconst 0, 1) := by decide +kernel
theorem dX1_copy_59 : decode cX1_copy 59 = .ok (.aload_n 0, 1) := by decide +kernel
theorem dX1_copy_60 : decode cX1_copy 60 = .ok (.getfield 21, 3) := by decide +kernel
theorem dX1_copy_63 : decode cX1_copy 63 = .ok (.iconst 0, 1) := by decide +kernel
theorem dX1_copy_64 : decode cX1_copy 64 = .ok (.aload_n 0, 1) := by decide +kernel
theorem dX1_copy_65 : decode cX1_copy 65 = .ok (.getfield 21, 3) := by decide +kernel
theorem dX1_copy_68 : decode cX1_copy 68 = .ok (.arraylength, 1) := by decide +kernel
theorem dX1_copy_69 : decode cX1_copy 69 = .ok (.invokestatic 41, 3) := by decide +kernel
theorem dX1_copy_72 : decode cX1_copy 72 = .ok (.aload_n 1, 1) := by decide +kernel
theorem dX1_copy_73 : decode cX1_copy 73 = .ok (.getfield 24, 3) := by decide +kernel
theorem dX1_copy_76 : decode cX1_copy 76 = .ok (.iconst 0, 1) := by decide +kernel
theorem dX1_copy_77 : decode cX1_copy 77 = .ok (.aload_n 0, 1) := by decide +kernel
theorem dX1_copy_78 : decode cX1_copy 78 = .ok (.getfield 24, 3) := by decide +kernel
theorem dX1_copy_81 : decode cX1_copy 81 = .ok (.iconst 0, 1) := by decide +kernel
theorem dX1_copy_82 : decode cX1_copy 82 = .ok (.aload_n 0, 1) := by decide +kernel
theorem dX1_copy_83 : decode cX1_copy 83 = .ok (.getfield 24, 3) := by decide +kernel
theorem dX1_copy_86 : decode cX1_copy 86 = .ok (.arraylength, 1) := by decide +kernel
theorem dX1_copy_87 : decode cX1_copy 87 = .ok (.invokestatic 41, 3) := by decide +kernel
theorem dX1_copy_90 : decode cX1_copy 90 = .ok (.aload_n 0, 1) := by decide +kernel
theorem dX1_copy_91 : decode cX1_copy 91 = .ok (.aload_n 1, 1) := by decide +kernel
theorem dX1_copy_92 : decode cX1_copy 92 = .ok (.getfield 27, 3) := by decide +kernel
theorem dX1_copy_95 : decode cX1_copy 95 = .ok (.putfield 27, 3) := by decide +kernel
theorem dX1_copy_98 : decode cX1_copy 98 = .ok (.aload_n 0, 1) := by decide +kernel
theorem dX1_copy_99 : decode cX1_copy 99 = .ok (.aload_n 1, 1) := by decide +kernel
theorem dX1_copy_100 : decode cX1_copy 100 = .ok (.getfield 31, 3) := by decide +kernel
theorem dX1_copy_103 : decode cX1_copy 103 = .ok (.putfield 31, 3) := by decide +kernel
theorem dX1_copy_106 : decode cX1_copy 106 = .ok (.aload_n 0, 1) := by decide +kernel
theorem dX1_copy_107 : decode cX1_copy 107 = .ok (.aload_n 1, 1) := by decide +kernel
theorem dX1_copy_108 : decode cX1_copy 108 = .ok (.getfield 35, 3) := by decide +kernel
theorem dX1_copy_111 : decode cX1_copy 111 = .ok (.putfield 35, 3) := by decide +kernel
theorem dX1_copy_114 : decode cX1_copy 114 = .ok (.aload_n 0, 1) := by decide +kernel
theorem dX1_copy_115 : decode cX1_copy 115 = .ok (.aload_n 1, 1) := by decide +kernel
theorem dX1_copy_116 : decode cX1_copy 116 = .ok (.getfield 38, 3) := by decide +kernel
theorem dX1_copy_119 : decode cX1_copy 119 = .ok (.putfield 38, 3) := by decide +kernel
theorem dX1_copy_122 : decode cX1_copy 122 = .ok (.return_, 1) := by decide +kernel
noncomputable def fX1_copy  (t_numbers : Nat → Int32) (t_cells : Nat → Int32) (t_rows : Nat → Int32) (t_sizes : Nat → Int32) (t_rooms : Nat → Int32) (t_told : Int32) (t_lines : Int32) (t_kinds : Int32) (t_acts : Int32) (p1_numbers : Nat → Int32) (p1_cells : Nat → Int32) (p1_rows : Nat → Int32) (p1_sizes : Nat → Int32) (p1_rooms : Nat → Int32) (p1_told : Int32) (p1_lines : Int32) (p1_kinds : Int32) (p1_acts : Int32) : Option ((Nat → Int32) × (Nat → Int32) × (Nat → Int32) × (Nat → Int32) × (Nat → Int32) × Int32 × Int32 × Int32 × Int32) := zb p1_told (some (p1_numbers, p1_cells, p1_rows, p1_sizes, p1_rooms, p1_told, p1_lines, p1_kinds, p1_acts))
set_option maxHeartbeats 4000000 in
set_option maxRecDepth 100000 in
theorem ctX1_copy (l : Launch) (g : GT) (sz : Nat) (a_t : Nat → Nat) (a_p1 : Nat → Nat) (t_told : Int32) (t_lines : Int32) (t_kinds : Int32) (t_acts : Int32) (t_numbers : Nat → Int32) (t_cells : Nat → Int32) (t_rows : Nat → Int32) (t_sizes : Nat → Int32) (t_rooms : Nat → Int32) (p1_told : Int32) (p1_lines : Int32) (p1_kinds : Int32) (p1_acts : Int32) (p1_numbers : Nat → Int32) (p1_cells : Nat → Int32) (p1_rows : Nat → Int32) (p1_sizes : Nat → Int32) (p1_rooms : Nat → Int32) (o_t_numbers : Nat → Int32) (o_t_cells : Nat → Int32) (o_t_rows : Nat → Int32) (o_t_sizes : Nat → Int32) (o_t_rooms : Nat → Int32) (o_t_told : Int32) (o_t_lines : Int32) (o_t_kinds : Int32) (o_t_acts : Int32) (h : fX1_copy t_numbers t_cells t_rows t_sizes t_rooms t_told t_lines t_kinds t_acts p1_numbers p1_cells p1_rows p1_sizes p1_rooms p1_told p1_lines p1_kinds p1_acts = some (o_t_numbers, o_t_cells, o_t_rows, o_t_sizes, o_t_rooms, o_t_told, o_t_lines, o_t_kinds, o_t_acts)) : Met l yX1_copy (Cond.code yX1_copy cX1_copy 2 none :: Tw) ⟨1, 0, 0, 40⟩ (va_Pc [.ref ((a_t 0)), .ref ((a_p1 0))] (rwB g [((a_t 0), .inr (1, [.ref (a_t 1), .ref (a_t 2), .ref (a_t 3), .ref (a_t 4), .ref (a_t 5), .int t_told, .int t_lines, .int t_kinds, .int t_acts])), ((a_t 1), .inl (g.2.2.1 0, 15, .inl t_numbers)), ((a_t 2), .inl (g.2.2.1 0, 144, .inl t_cells)), ((a_t 3), .inl (g.2.2.1 0, 31, .inl t_rows)), ((a_t 4), .inl (g.2.2.1 0, 31, .inl t_sizes)), ((a_t 5), .inl (g.2.2.1 0, 31, .inl t_rooms)), ((a_p1 0), .inr (1, [.ref (a_p1 1), .ref (a_p1 2), .ref (a_p1 3), .ref (a_p1 4), .ref (a_p1 5), .int p1_told, .int p1_lines, .int p1_kinds, .int p1_acts])), ((a_p1 1), .inl (g.2.2.1 0, 15, .inl p1_numbers)), ((a_p1 2), .inl (g.2.2.1 0, 144, .inl p1_cells)), ((a_p1 3), .inl (g.2.2.1 0, 31, .inl p1_rows)), ((a_p1 4), .inl (g.2.2.1 0, 31, .inl p1_sizes)), ((a_p1 5), .inl (g.2.2.1 0, 31, .inl p1_rooms))] sz)) (va_Qv (fun (_ : Nat → Nat) => True) (fun u => rwE g (va_A [((a_t 0), .inr (1, [.ref (a_t 1), .ref (a_t 2), .ref (a_t 3), .ref (a_t 4), .ref (a_t 5), .int t_told, .int t_lines, .int t_kinds, .int t_acts])), ((a_t 1), .inl (g.2.2.1 0, 15, .inl t_numbers)), ((a_t 2), .inl (g.2.2.1 0, 144, .inl t_cells)), ((a_t 3), .inl (g.2.2.1 0, 31, .inl t_rows)), ((a_t 4), .inl (g.2.2.1 0, 31, .inl t_sizes)), ((a_t 5), .inl (g.2.2.1 0, 31, .inl t_rooms)), ((a_p1 0), .inr (1, [.ref (a_p1 1), .ref (a_p1 2), .ref (a_p1 3), .ref (a_p1 4), .ref (a_p1 5), .int p1_told, .int p1_lines, .int p1_kinds, .int p1_acts])), ((a_p1 1), .inl (g.2.2.1 0, 15, .inl p1_numbers)), ((a_p1 2), .inl (g.2.2.1 0, 144, .inl p1_cells)), ((a_p1 3), .inl (g.2.2.1 0, 31, .inl p1_rows)), ((a_p1 4), .inl (g.2.2.1 0, 31, .inl p1_sizes)), ((a_p1 5), .inl (g.2.2.1 0, 31, .inl p1_rooms))] sz) [((a_t 0), .inr (1, [.ref (a_t 1), .ref (a_t 2), .ref (a_t 3), .ref (a_t 4), .ref (a_t 5), .int o_t_told, .int o_t_lines, .int o_t_kinds, .int o_t_acts])), ((a_t 1), .inl (g.2.2.1 0, 15, .inl o_t_numbers)), ((a_t 2), .inl (g.2.2.1 0, 144, .inl o_t_cells)), ((a_t 3), .inl (g.2.2.1 0, 31, .inl o_t_rows)), ((a_t 4), .inl (g.2.2.1 0, 31, .inl o_t_sizes)), ((a_t 5), .inl (g.2.2.1 0, 31, .inl o_t_rooms)), ((a_p1 0), .inr (1, [.ref (a_p1 1), .ref (a_p1 2), .ref (a_p1 3), .ref (a_p1 4), .ref (a_p1 5), .int p1_told, .int p1_lines, .int p1_kinds, .int p1_acts])), ((a_p1 1), .inl (g.2.2.1 0, 15, .inl p1_numbers)), ((a_p1 2), .inl (g.2.2.1 0, 144, .inl p1_cells)), ((a_p1 3), .inl (g.2.2.1 0, 31, .inl p1_rows)), ((a_p1 4), .inl (g.2.2.1 0, 31, .inl p1_sizes)), ((a_p1 5), .inl (g.2.2.1 0, 31, .inl p1_rooms))]) (va_A [((a_t 0), .inr (1, [.ref (a_t 1), .ref (a_t 2), .ref (a_t 3), .ref (a_t 4), .ref (a_t 5), .int t_told, .int t_lines, .int t_kinds, .int t_acts])), ((a_t 1), .inl (g.2.2.1 0, 15, .inl t_numbers)), ((a_t 2), .inl (g.2.2.1 0, 144, .inl t_cells)), ((a_t 3), .inl (g.2.2.1 0, 31, .inl t_rows)), ((a_t 4), .inl (g.2.2.1 0, 31, .inl t_sizes)), ((a_t 5), .inl (g.2.2.1 0, 31, .inl t_rooms)), ((a_p1 0), .inr (1, [.ref (a_p1 1), .ref (a_p1 2), .ref (a_p1 3), .ref (a_p1 4), .ref (a_p1 5), .int p1_told, .int p1_lines, .int p1_kinds, .int p1_acts])), ((a_p1 1), .inl (g.2.2.1 0, 15, .inl p1_numbers)), ((a_p1 2), .inl (g.2.2.1 0, 144, .inl p1_cells)), ((a_p1 3), .inl (g.2.2.1 0, 31, .inl p1_rows)), ((a_p1 4), .inl (g.2.2.1 0, 31, .inl p1_sizes)), ((a_p1 5), .inl (g.2.2.1 0, 31, .inl p1_rooms))] sz)) 0 0 (va_A [((a_t 0), .inr (1, [.ref (a_t 1), .ref (a_t 2), .ref (a_t 3), .ref (a_t 4), .ref (a_t 5), .int t_told, .int t_lines, .int t_kinds, .int t_acts])), ((a_t 1), .inl (g.2.2.1 0, 15, .inl t_numbers)), ((a_t 2), .inl (g.2.2.1 0, 144, .inl t_cells)), ((a_t 3), .inl (g.2.2.1 0, 31, .inl t_rows)), ((a_t 4), .inl (g.2.2.1 0, 31, .inl t_sizes)), ((a_t 5), .inl (g.2.2.1 0, 31, .inl t_rooms)), ((a_p1 0), .inr (1, [.ref (a_p1 1), .ref (a_p1 2), .ref (a_p1 3), .ref (a_p1 4), .ref (a_p1 5), .int p1_told, .int p1_lines, .int p1_kinds, .int p1_acts])), ((a_p1 1), .inl (g.2.2.1 0, 15, .inl p1_numbers)), ((a_p1 2), .inl (g.2.2.1 0, 144, .inl p1_cells)), ((a_p1 3), .inl (g.2.2.1 0, 31, .inl p1_rows)), ((a_p1 4), .inl (g.2.2.1 0, 31, .inl p1_sizes)), ((a_p1 5), .inl (g.2.2.1 0, 31, .inl p1_rooms))] sz) := by
  refine rw_metv (by decide) (Nat.le_of_ble_eq_true rfl) (lv0 := [(0, .ref ((a_t 0))), (1, .ref ((a_p1 0)))]) rfl ?_
  intro p e s m args below meth c ls Q A cx hret hG hAb hb0 hA hP hD hl
  have hx := cx.1
  have hb := cx.2.1
  have hG0 := hG
  have hGk : ∀ {H : Heap} {locs : List Loc}, va_S A s.heap H locs → GE g s H := fun hS => hG0.keptS hAb hS
  have hSb : ∀ {H : Heap} {locs : List Loc}, va_S A s.heap H locs → va_S (fun a => g.1 ≤ a) s.heap H locs := fun hS => ⟨hS.1, fun q h1 h2 => hS.2.1 q h1 (fun z => h2 (hAb q z)), fun l hl => hAb _ (hS.2.2 l hl)⟩
  have hS : va_S A s.heap s.heap [] := va_S.rf
  have hrt : ∀ (u : Nat → Nat) (pc : Nat) (ls : Array Slot) (x_t_numbers : Nat → Int32) (x_t_cells : Nat → Int32) (x_t_rows : Nat → Int32) (x_t_sizes : Nat → Int32) (x_t_rooms : Nat → Int32) (x_t_told : Int32) (x_t_lines : Int32) (x_t_kinds : Int32) (x_t_acts : Int32) (H : Heap) (locs : List Loc), decode cX1_copy pc = .ok (.return_, 1) → some (x_t_numbers, x_t_cells, x_t_rows, x_t_sizes, x_t_rooms, x_t_told, x_t_lines, x_t_kinds, x_t_acts) = some (o_t_numbers, o_t_cells, o_t_rows, o_t_sizes, o_t_rooms, o_t_told, o_t_lines, o_t_kinds, o_t_acts) → va_P g.2.1 vwCl [((a_t 0), .inr (1, [.ref (a_t 1), .ref (a_t 2), .ref (a_t 3), .ref (a_t 4), .ref (a_t 5), .int x_t_told, .int x_t_lines, .int x_t_kinds, .int x_t_acts])), ((a_t 1), .inl (g.2.2.1 0, 15, .inl x_t_numbers)), ((a_t 2), .inl (g.2.2.1 0, 144, .inl x_t_cells)), ((a_t 3), .inl (g.2.2.1 0, 31, .inl x_t_rows)), ((a_t 4), .inl (g.2.2.1 0, 31, .inl x_t_sizes)), ((a_t 5), .inl (g.2.2.1 0, 31, .inl x_t_rooms)), ((a_p1 0), .inr (1, [.ref (a_p1 1), .ref (a_p1 2), .ref (a_p1 3), .ref (a_p1 4), .ref (a_p1 5), .int p1_told, .int p1_lines, .int p1_kinds, .int p1_acts])), ((a_p1 1), .inl (g.2.2.1 0, 15, .inl p1_numbers)), ((a_p1 2), .inl (g.2.2.1 0, 144, .inl p1_cells)), ((a_p1 3), .inl (g.2.2.1 0, 31, .inl p1_rows)), ((a_p1 4), .inl (g.2.2.1 0, 31, .inl p1_sizes)), ((a_p1 5), .inl (g.2.2.1 0, 31, .inl p1_rooms))] H → va_D A [((a_t 0), .inr (1, [.ref (a_t 1), .ref (a_t 2), .ref (a_t 3), .ref (a_t 4), .ref (a_t 5), .int x_t_told, .int x_t_lines, .int x_t_kinds, .int x_t_acts])), ((a_t 1), .inl (g.2.2.1 0, 15, .inl x_t_numbers)), ((a_t 2), .inl (g.2.2.1 0, 144, .inl x_t_cells)), ((a_t 3), .inl (g.2.2.1 0, 31, .inl x_t_rows)), ((a_t 4), .inl (g.2.2.1 0, 31, .inl x_t_sizes)), ((a_t 5), .inl (g.2.2.1 0, 31, .inl x_t_rooms)), ((a_p1 0), .inr (1, [.ref (a_p1 1), .ref (a_p1 2), .ref (a_p1 3), .ref (a_p1 4), .ref (a_p1 5), .int p1_told, .int p1_lines, .int p1_kinds, .int p1_acts])), ((a_p1 1), .inl (g.2.2.1 0, 15, .inl p1_numbers)), ((a_p1 2), .inl (g.2.2.1 0, 144, .inl p1_cells)), ((a_p1 3), .inl (g.2.2.1 0, 31, .inl p1_rows)), ((a_p1 4), .inl (g.2.2.1 0, 31, .inl p1_sizes)), ((a_p1 5), .inl (g.2.2.1 0, 31, .inl p1_rooms))] → va_S A s.heap H locs → W p l e ⟨1, 0, 0, 40⟩ s m args below meth c H locs 0 0 Q (F0 m pc ls []) := by
    intro u pc ls x_t_numbers x_t_cells x_t_rows x_t_sizes x_t_rooms x_t_told x_t_lines x_t_kinds x_t_acts H locs hd h hP hD hS
    cases h
    exact hret u _ _ _ _ hd hP hD hS
  unfold fX1_copy at h
  refine lv_aload_n hx hb dX1_copy_0 rfl (lv_at hl 1 rfl) ?_
  refine xa_get (C := RX1) (T := TX1) (N := 9) cx hG hP 6 rfl rfl uX1 0 (by decide) lf_X1_9 rfl dX1_copy_1 ?_
  refine lv_iconst (v := 0) hx hb dX1_copy_4 (by decide) ?_
  refine lv_aload_n hx hb dX1_copy_5 rfl (lv_at hl 0 rfl) ?_
  refine xa_get (C := RX1) (T := TX1) (N := 9) cx hG hP 0 rfl rfl uX1 0 (by decide) lf_X1_9 rfl dX1_copy_6 ?_
  refine lv_iconst (v := 0) hx hb dX1_copy_9 (by decide) ?_
  refine lv_aload_n hx hb dX1_copy_10 rfl (lv_at hl 0 rfl) ?_
  refine xa_get (C := RX1) (T := TX1) (N := 9) cx hG hP 0 rfl rfl uX1 0 (by decide) lf_X1_9 rfl dX1_copy_11 ?_
  refine xa_len cx hG hP 1 rfl 0 rfl (v := 15) rfl dX1_copy_14 ?_
  refine xw_copyi (ws' := [((a_t 0), .inr (1, [.ref (a_t 1), .ref (a_t 2), .ref (a_t 3), .ref (a_t 4), .ref (a_t 5), .int t_told, .int t_lines, .int t_kinds, .int t_acts])), ((a_t 1), .inl (g.2.2.1 0, 15, .inl p1_numbers)), ((a_t 2), .inl (g.2.2.1 0, 144, .inl t_cells)), ((a_t 3), .inl (g.2.2.1 0, 31, .inl t_rows)), ((a_t 4), .inl (g.2.2.1 0, 31, .inl t_sizes)), ((a_t 5), .inl (g.2.2.1 0, 31, .inl t_rooms)), ((a_p1 0), .inr (1, [.ref (a_p1 1), .ref (a_p1 2), .ref (a_p1 3), .ref (a_p1 4), .ref (a_p1 5), .int p1_told, .int p1_lines, .int p1_kinds, .int p1_acts])), ((a_p1 1), .inl (g.2.2.1 0, 15, .inl p1_numbers)), ((a_p1 2), .inl (g.2.2.1 0, 144, .inl p1_cells)), ((a_p1 3), .inl (g.2.2.1 0, 31, .inl p1_rows)), ((a_p1 4), .inl (g.2.2.1 0, 31, .inl p1_sizes)), ((a_p1 5), .inl (g.2.2.1 0, 31, .inl p1_rooms))]) cx hl.1 hG hP hD hS lm_X1_41 kcopy 7 1 rfl rfl (by decide) rfl (Nat.le_of_ble_eq_true rfl) (Nat.le_of_ble_eq_true rfl) dX1_copy_15 (fun H locs hP hD hS => ?_)
  have hG := hGk hS
  refine lv_aload_n hx hb dX1_copy_18 rfl (lv_at hl 1 rfl) ?_
  refine xa_get (C := RX1) (T := TX1) (N := 9) cx hG hP 6 rfl rfl uX1 1 (by decide) lf_X1_15 rfl dX1_copy_19 ?_
  refine lv_iconst (v := 0) hx hb dX1_copy_22 (by decide) ?_
  refine lv_aload_n hx hb dX1_copy_23 rfl (lv_at hl 0 rfl) ?_
  refine xa_get (C := RX1) (T := TX1) (N := 9) cx hG hP 0 rfl rfl uX1 1 (by decide) lf_X1_15 rfl dX1_copy_24 ?_
  refine lv_iconst (v := 0) hx hb dX1_copy_27 (by decide) ?_
  refine lv_aload_n hx hb dX1_copy_28 rfl (lv_at hl 0 rfl) ?_
  refine xa_get (C := RX1) (T := TX1) (N := 9) cx hG hP 0 rfl rfl uX1 1 (by decide) lf_X1_15 rfl dX1_copy_29 ?_
  refine xa_len cx hG hP 2 rfl 0 rfl (v := 144) rfl dX1_copy_32 ?_
  refine xw_copyi (ws' := [((a_t 0), .inr (1, [.ref (a_t 1), .ref (a_t 2), .ref (a_t 3), .ref (a_t 4), .ref (a_t 5), .int t_told, .int t_lines, .int t_kinds, .int t_acts])), ((a_t 1), .inl (g.2.2.1 0, 15, .inl p1_numbers)), ((a_t 2), .inl (g.2.2.1 0, 144, .inl p1_cells)), ((a_t 3), .inl (g.2.2.1 0, 31, .inl t_rows)), ((a_t 4), .inl (g.2.2.1 0, 31, .inl t_sizes)), ((a_t 5), .inl (g.2.2.1 0, 31, .inl t_rooms)), ((a_p1 0), .inr (1, [.ref (a_p1 1), .ref (a_p1 2), .ref (a_p1 3), .ref (a_p1 4), .ref (a_p1 5), .int p1_told, .int p1_lines, .int p1_kinds, .int p1_acts])), ((a_p1 1), .inl (g.2.2.1 0, 15, .inl p1_numbers)), ((a_p1 2), .inl (g.2.2.1 0, 144, .inl p1_cells)), ((a_p1 3), .inl (g.2.2.1 0, 31, .inl p1_rows)), ((a_p1 4), .inl (g.2.2.1 0, 31, .inl p1_sizes)), ((a_p1 5), .inl (g.2.2.1 0, 31, .inl p1_rooms))]) cx hl.1 hG hP hD hS lm_X1_41 kcopy 8 2 rfl rfl (by decide) rfl (Nat.le_of_ble_eq_true rfl) (Nat.le_of_ble_eq_true rfl) dX1_copy_33 (fun H locs hP hD hS => ?_)
  have hG := hGk hS
  refine lv_aload_n hx hb dX1_copy_36 rfl (lv_at hl 1 rfl) ?_
  refine xa_get (C := RX1) (T := TX1) (N := 9) cx hG hP 6 rfl rfl uX1 2 (by decide) lf_X1_18 rfl dX1_copy_37 ?_
  refine lv_iconst (v := 0) hx hb dX1_copy_40 (by decide) ?_
  refine lv_aload_n hx hb dX1_copy_41 rfl (lv_at hl 0 rfl) ?_
  refine xa_get (C := RX1) (T := TX1) (N := 9) cx hG hP 0 rfl rfl uX1 2 (by decide) lf_X1_18 rfl dX1_copy_42 ?_
  refine lv_iconst (v := 0) hx hb dX1_copy_45 (by decide) ?_
  refine lv_aload_n hx hb dX1_copy_46 rfl (lv_at hl 0 rfl) ?_
  refine xa_get (C := RX1) (T := TX1) (N := 9) cx hG hP 0 rfl rfl uX1 2 (by decide) lf_X1_18 rfl dX1_copy_47 ?_
  refine xa_len cx hG hP 3 rfl 0 rfl (v := 31) rfl dX1_copy_50 ?_
  refine xw_copyi (ws' := [((a_t 0), .inr (1, [.ref (a_t 1), .ref (a_t 2), .ref (a_t 3), .ref (a_t 4), .ref (a_t 5), .int t_told, .int t_lines, .int t_kinds, .int t_acts])), ((a_t 1), .inl (g.2.2.1 0, 15, .inl p1_numbers)), ((a_t 2), .inl (g.2.2.1 0, 144, .inl p1_cells)), ((a_t 3), .inl (g.2.2.1 0, 31, .inl p1_rows)), ((a_t 4), .inl (g.2.2.1 0, 31, .inl t_sizes)), ((a_t 5), .inl (g.2.2.1 0, 31, .inl t_rooms)), ((a_p1 0), .inr (1, [.ref (a_p1 1), .ref (a_p1 2), .ref (a_p1 3), .ref (a_p1 4), .ref (a_p1 5), .int p1_told, .int p1_lines, .int p1_kinds, .int p1_acts])), ((a_p1 1), .inl (g.2.2.1 0, 15, .inl p1_numbers)), ((a_p1 2), .inl (g.2.2.1 0, 144, .inl p1_cells)), ((a_p1 3), .inl (g.2.2.1 0, 31, .inl p1_rows)), ((a_p1 4), .inl (g.2.2.1 0, 31, .inl p1_sizes)), ((a_p1 5), .inl (g.2.2.1 0, 31, .inl p1_rooms))]) cx hl.1 hG hP hD hS lm_X1_41 kcopy 9 3 rfl rfl (by decide) rfl (Nat.le_of_ble_eq_true rfl) (Nat.le_of_ble_eq_true rfl) dX1_copy_51 (fun H locs hP hD hS => ?_)
  have hG := hGk hS
  refine lv_aload_n hx hb dX1_copy_54 rfl (lv_at hl 1 rfl) ?_
  refine xa_get (C := RX1) (T := TX1) (N := 9) cx hG hP 6 rfl rfl uX1 3 (by decide) lf_X1_21 rfl dX1_copy_55 ?_
  refine lv_iconst (v := 0) hx hb dX1_copy_58 (by decide) ?_
  refine lv_aload_n hx hb dX1_copy_59 rfl (lv_at hl 0 rfl) ?_
  refine xa_get (C := RX1) (T := TX1) (N := 9) cx hG hP 0 rfl rfl uX1 3 (by decide) lf_X1_21 rfl dX1_copy_60 ?_
  refine lv_iconst (v := 0) hx hb dX1_copy_63 (by decide) ?_
  refine lv_aload_n hx hb dX1_copy_64 rfl (lv_at hl 0 rfl) ?_
  refine xa_get (C := RX1) (T := TX1) (N := 9) cx hG hP 0 rfl rfl uX1 3 (by decide) lf_X1_21 rfl dX1_copy_65 ?_
  refine xa_len cx hG hP 4 rfl 0 rfl (v := 31) rfl dX1_copy_68 ?_
  refine xw_copyi (ws' := [((a_t 0), .inr (1, [.ref (a_t 1), .ref (a_t 2), .ref (a_t 3), .ref (a_t 4), .ref (a_t 5), .int t_told, .int t_lines, .int t_kinds, .int t_acts])), ((a_t 1), .inl (g.2.2.1 0, 15, .inl p1_numbers)), ((a_t 2), .inl (g.2.2.1 0, 144, .inl p1_cells)), ((a_t 3), .inl (g.2.2.1 0, 31, .inl p1_rows)), ((a_t 4), .inl (g.2.2.1 0, 31, .inl p1_sizes)), ((a_t 5), .inl (g.2.2.1 0, 31, .inl t_rooms)), ((a_p1 0), .inr (1, [.ref (a_p1 1), .ref (a_p1 2), .ref (a_p1 3), .ref (a_p1 4), .ref (a_p1 5), .int p1_told, .int p1_lines, .int p1_kinds, .int p1_acts])), ((a_p1 1), .inl (g.2.2.1 0, 15, .inl p1_numbers)), ((a_p1 2), .inl (g.2.2.1 0, 144, .inl p1_cells)), ((a_p1 3), .inl (g.2.2.1 0, 31, .inl p1_rows)), ((a_p1 4), .inl (g.2.2.1 0, 31, .inl p1_sizes)), ((a_p1 5), .inl (g.2.2.1 0, 31, .inl p1_rooms))]) cx hl.1 hG hP hD hS lm_X1_41 kcopy 10 4 rfl rfl (by decide) rfl (Nat.le_of_ble_eq_true rfl) (Nat.le_of_ble_eq_true rfl) dX1_copy_69 (fun H locs hP hD hS => ?_)
  have hG := hGk hS
  refine lv_aload_n hx hb dX1_copy_72 rfl (lv_at hl 1 rfl) ?_
  refine xa_get (C := RX1) (T := TX1) (N := 9) cx hG hP 6 rfl rfl uX1 4 (by decide) lf_X1_24 rfl dX1_copy_73 ?_
  refine lv_iconst (v := 0) hx hb dX1_copy_76 (by decide) ?_
  refine lv_aload_n hx hb dX1_copy_77 rfl (lv_at hl 0 rfl) ?_
  refine xa_get (C := RX1) (T := TX1) (N := 9) cx hG hP 0 rfl rfl uX1 4 (by decide) lf_X1_24 rfl dX1_copy_78 ?_
  refine lv_iconst (v := 0) hx hb dX1_copy_81 (by decide) ?_
  refine lv_aload_n hx hb dX1_copy_82 rfl (lv_at hl 0 rfl) ?_
  refine xa_get (C := RX1) (T := TX1) (N := 9) cx hG hP 0 rfl rfl uX1 4 (by decide) lf_X1_24 rfl dX1_copy_83 ?_
  refine xa_len cx hG hP 5 rfl 0 rfl (v := 31) rfl dX1_copy_86 ?_
  refine xw_copyi (ws' := [((a_t 0), .inr (1, [.ref (a_t 1), .ref (a_t 2), .ref (a_t 3), .ref (a_t 4), .ref (a_t 5), .int t_told, .int t_lines, .int t_kinds, .int t_acts])), ((a_t 1), .inl (g.2.2.1 0, 15, .inl p1_numbers)), ((a_t 2), .inl (g.2.2.1 0, 144, .inl p1_cells)), ((a_t 3), .inl (g.2.2.1 0, 31, .inl p1_rows)), ((a_t 4), .inl (g.2.2.1 0, 31, .inl p1_sizes)), ((a_t 5), .inl (g.2.2.1 0, 31, .inl p1_rooms)), ((a_p1 0), .inr (1, [.ref (a_p1 1), .ref (a_p1 2), .ref (a_p1 3), .ref (a_p1 4), .ref (a_p1 5), .int p1_told, .int p1_lines, .int p1_kinds, .int p1_acts])), ((a_p1 1), .inl (g.2.2.1 0, 15, .inl p1_numbers)), ((a_p1 2), .inl (g.2.2.1 0, 144, .inl p1_cells)), ((a_p1 3), .inl (g.2.2.1 0, 31, .inl p1_rows)), ((a_p1 4), .inl (g.2.2.1 0, 31, .inl p1_sizes)), ((a_p1 5), .inl (g.2.2.1 0, 31, .inl p1_rooms))]) cx hl.1 hG hP hD hS lm_X1_41 kcopy 11 5 rfl rfl (by decide) rfl (Nat.le_of_ble_eq_true rfl) (Nat.le_of_ble_eq_true rfl) dX1_copy_87 (fun H locs hP hD hS => ?_)
  have hG := hGk hS
  refine lv_aload_n hx hb dX1_copy_90 rfl (lv_at hl 0 rfl) ?_
  refine lv_aload_n hx hb dX1_copy_91 rfl (lv_at hl 1 rfl) ?_
  refine xa_get (C := RX1) (T := TX1) (N := 9) cx hG hP 6 rfl rfl uX1 5 (by decide) lf_X1_27 rfl dX1_copy_92 ?_
  obtain ⟨hb1, h⟩ := zb_out h
  refine xw_put (C := RX1) (T := TX1) (N := 9) (ty := .boolean) (v := .int p1_told) (ws' := [((a_t 0), .inr (1, [.ref (a_t 1), .ref (a_t 2), .ref (a_t 3), .ref (a_t 4), .ref (a_t 5), .int p1_told, .int t_lines, .int t_kinds, .int t_acts])), ((a_t 1), .inl (g.2.2.1 0, 15, .inl p1_numbers)), ((a_t 2), .inl (g.2.2.1 0, 144, .inl p1_cells)), ((a_t 3), .inl (g.2.2.1 0, 31, .inl p1_rows)), ((a_t 4), .inl (g.2.2.1 0, 31, .inl p1_sizes)), ((a_t 5), .inl (g.2.2.1 0, 31, .inl p1_rooms)), ((a_p1 0), .inr (1, [.ref (a_p1 1), .ref (a_p1 2), .ref (a_p1 3), .ref (a_p1 4), .ref (a_p1 5), .int p1_told, .int p1_lines, .int p1_kinds, .int p1_acts])), ((a_p1 1), .inl (g.2.2.1 0, 15, .inl p1_numbers)), ((a_p1 2), .inl (g.2.2.1 0, 144, .inl p1_cells)), ((a_p1 3), .inl (g.2.2.1 0, 31, .inl p1_rows)), ((a_p1 4), .inl (g.2.2.1 0, 31, .inl p1_sizes)), ((a_p1 5), .inl (g.2.2.1 0, 31, .inl p1_rooms))]) cx hG hP hD hS 0 rfl rfl uX1 tyX1 tyX1_ok nmX1 5 (by decide) lf_X1_27 rfl (by decide +kernel) (zb_nar hb1) (zb_fit hb1) (Nat.le_of_ble_eq_true rfl) rfl dX1_copy_95 (fun H locs hP hD hS => ?_)
  have hG := hGk hS
  refine lv_aload_n hx hb dX1_copy_98 rfl (lv_at hl 0 rfl) ?_
  refine lv_aload_n hx hb dX1_copy_99 rfl (lv_at hl 1 rfl) ?_
  refine xa_get (C := RX1) (T := TX1) (N := 9) cx hG hP 6 rfl rfl uX1 6 (by decide) lf_X1_31 rfl dX1_copy_100 ?_
  refine xw_put (C := RX1) (T := TX1) (N := 9) (ty := .int) (v := .int p1_lines) (ws' := [((a_t 0), .inr (1, [.ref (a_t 1), .ref (a_t 2), .ref (a_t 3), .ref (a_t 4), .ref (a_t 5), .int p1_told, .int p1_lines, .int t_kinds, .int t_acts])), ((a_t 1), .inl (g.2.2.1 0, 15, .inl p1_numbers)), ((a_t 2), .inl (g.2.2.1 0, 144, .inl p1_cells)), ((a_t 3), .inl (g.2.2.1 0, 31, .inl p1_rows)), ((a_t 4), .inl (g.2.2.1 0, 31, .inl p1_sizes)), ((a_t 5), .inl (g.2.2.1 0, 31, .inl p1_rooms)), ((a_p1 0), .inr (1, [.ref (a_p1 1), .ref (a_p1 2), .ref (a_p1 3), .ref (a_p1 4), .ref (a_p1 5), .int p1_told, .int p1_lines, .int p1_kinds, .int p1_acts])), ((a_p1 1), .inl (g.2.2.1 0, 15, .inl p1_numbers)), ((a_p1 2), .inl (g.2.2.1 0, 144, .inl p1_cells)), ((a_p1 3), .inl (g.2.2.1 0, 31, .inl p1_rows)), ((a_p1 4), .inl (g.2.2.1 0, 31, .inl p1_sizes)), ((a_p1 5), .inl (g.2.2.1 0, 31, .inl p1_rooms))]) cx hG hP hD hS 0 rfl rfl uX1 tyX1 tyX1_ok nmX1 6 (by decide) lf_X1_31 rfl (by decide +kernel) rfl rfl (Nat.le_of_ble_eq_true rfl) rfl dX1_copy_103 (fun H locs hP hD hS => ?_)
  have hG := hGk hS
  refine lv_aload_n hx hb dX1_copy_106 rfl (lv_at hl 0 rfl) ?_
  refine lv_aload_n hx hb dX1_copy_107 rfl (lv_at hl 1 rfl) ?_
  refine xa_get (C := RX1) (T := TX1) (N := 9) cx hG hP 6 rfl rfl uX1 7 (by decide) lf_X1_35 rfl dX1_copy_108 ?_
  refine xw_put (C := RX1) (T := TX1) (N := 9) (ty := .int) (v := .int p1_kinds) (ws' := [((a_t 0), .inr (1, [.ref (a_t 1), .ref (a_t 2), .ref (a_t 3), .ref (a_t 4), .ref (a_t 5), .int p1_told, .int p1_lines, .int p1_kinds, .int t_acts])), ((a_t 1), .inl (g.2.2.1 0, 15, .inl p1_numbers)), ((a_t 2), .inl (g.2.2.1 0, 144, .inl p1_cells)), ((a_t 3), .inl (g.2.2.1 0, 31, .inl p1_rows)), ((a_t 4), .inl (g.2.2.1 0, 31, .inl p1_sizes)), ((a_t 5), .inl (g.2.2.1 0, 31, .inl p1_rooms)), ((a_p1 0), .inr (1, [.ref (a_p1 1), .ref (a_p1 2), .ref (a_p1 3), .ref (a_p1 4), .ref (a_p1 5), .int p1_told, .int p1_lines, .int p1_kinds, .int p1_acts])), ((a_p1 1), .inl (g.2.2.1 0, 15, .inl p1_numbers)), ((a_p1 2), .inl (g.2.2.1 0, 144, .inl p1_cells)), ((a_p1 3), .inl (g.2.2.1 0, 31, .inl p1_rows)), ((a_p1 4), .inl (g.2.2.1 0, 31, .inl p1_sizes)), ((a_p1 5), .inl (g.2.2.1 0, 31, .inl p1_rooms))]) cx hG hP hD hS 0 rfl rfl uX1 tyX1 tyX1_ok nmX1 7 (by decide) lf_X1_35 rfl (by decide +kernel) rfl rfl (Nat.le_of_ble_eq_true rfl) rfl dX1_copy_111 (fun H locs hP hD hS => ?_)
  have hG := hGk hS
  refine lv_aload_n hx hb dX1_copy_114 rfl (lv_at hl 0 rfl) ?_
  refine lv_aload_n hx hb dX1_copy_115 rfl (lv_at hl 1 rfl) ?_
  refine xa_get (C := RX1) (T := TX1) (N := 9) cx hG hP 6 rfl rfl uX1 8 (by decide) lf_X1_38 rfl dX1_copy_116 ?_
  refine xw_put (C := RX1) (T := TX1) (N := 9) (ty := .int) (v := .int p1_acts) (ws' := [((a_t 0), .inr (1, [.ref (a_t 1), .ref (a_t 2), .ref (a_t 3), .ref (a_t 4), .ref (a_t 5), .int p1_told, .int p1_lines, .int p1_kinds, .int p1_acts])), ((a_t 1), .inl (g.2.2.1 0, 15, .inl p1_numbers)), ((a_t 2), .inl (g.2.2.1 0, 144, .inl p1_cells)), ((a_t 3), .inl (g.2.2.1 0, 31, .inl p1_rows)), ((a_t 4), .inl (g.2.2.1 0, 31, .inl p1_sizes)), ((a_t 5), .inl (g.2.2.1 0, 31, .inl p1_rooms)), ((a_p1 0), .inr (1, [.ref (a_p1 1), .ref (a_p1 2), .ref (a_p1 3), .ref (a_p1 4), .ref (a_p1 5), .int p1_told, .int p1_lines, .int p1_kinds, .int p1_acts])), ((a_p1 1), .inl (g.2.2.1 0, 15, .inl p1_numbers)), ((a_p1 2), .inl (g.2.2.1 0, 144, .inl p1_cells)), ((a_p1 3), .inl (g.2.2.1 0, 31, .inl p1_rows)), ((a_p1 4), .inl (g.2.2.1 0, 31, .inl p1_sizes)), ((a_p1 5), .inl (g.2.2.1 0, 31, .inl p1_rooms))]) cx hG hP hD hS 0 rfl rfl uX1 tyX1 tyX1_ok nmX1 8 (by decide) lf_X1_38 rfl (by decide +kernel) rfl rfl (Nat.le_of_ble_eq_true rfl) rfl dX1_copy_119 (fun H locs hP hD hS => ?_)
  have hG := hGk hS
  exact hrt (fun _ => 0) _ _ p1_numbers p1_cells p1_rows p1_sizes p1_rooms p1_told p1_lines p1_kinds p1_acts _ _ dX1_copy_122 h (hP.sub [0, 1, 2, 3, 4, 5, 6, 7, 8, 9, 10, 11] rfl) (hD.sub [0, 1, 2, 3, 4, 5, 6, 7, 8, 9, 10, 11] (by decide) rfl) hS
-- X1_isFull
theorem dX1_isFull_0 : decode cX1_isFull 0 = .ok (.aload_n 0, 1) := by decide +kernel
theorem dX1_isFull_1 : decode cX1_isFull 1 = .ok (.getfield 38, 3) := by decide +kernel
theorem dX1_isFull_4 : decode cX1_isFull 4 = .ok (.bipush 30, 2) := by decide +kernel
theorem dX1_isFull_6 : decode cX1_isFull 6 = .ok (.if_icmp .lt 7, 3) := by decide +kernel
theorem dX1_isFull_9 : decode cX1_isFull 9 = .ok (.iconst 1, 1) := by decide +kernel
theorem dX1_isFull_10 : decode cX1_isFull 10 = .ok (.goto 4, 3) := by decide +kernel
theorem dX1_isFull_13 : decode cX1_isFull 13 = .ok (.iconst 0, 1) := by decide +kernel
theorem dX1_isFull_14 : decode cX1_isFull 14 = .ok (.ireturn, 1) := by decide +kernel
noncomputable def fX1_isFull  (t_acts : Int32) : Int32 := (if t_acts < 30 then (0) else (1))
set_option maxHeartbeats 4000000 in
set_option maxRecDepth 100000 in
theorem ctX1_isFull (l : Launch) (g : GT) (a_t : Nat → Nat) (t_told : Int32) (t_lines : Int32) (t_kinds : Int32) (t_acts : Int32) (o : Int32) (h : fX1_isFull t_acts = o) : Met l yX1_isFull (Cond.code yX1_isFull cX1_isFull 1 (some .boolean) :: Tw) ⟨0, 0, 0, 0⟩ (va_Pc [.ref ((a_t 0))] (roB g [((a_t 0), .inr (1, [.ref (a_t 1), .ref (a_t 2), .ref (a_t 3), .ref (a_t 4), .ref (a_t 5), .int t_told, .int t_lines, .int t_kinds, .int t_acts]))])) (vp_Si (fun x => x = o ∧ (x = 0 ∨ x = 1))) 0 0 (fun _ => False) := by
  refine ro_metz (by decide) (Nat.le_of_ble_eq_true rfl) (lv0 := [(0, .ref ((a_t 0)))]) rfl ?_
  intro p e s m args below meth c ls Q cx hret hG hP hl
  have hx := cx.1
  have hb := cx.2.1
  have hG0 := hG
  unfold fX1_isFull at h
  refine lv_aload_n hx hb dX1_isFull_0 rfl (lv_at hl 0 rfl) ?_
  refine xa_get (C := RX1) (T := TX1) (N := 9) cx hG hP 0 rfl rfl uX1 8 (by decide) lf_X1_38 rfl dX1_isFull_1 ?_
  refine lv_bipush (v := 30) hx hb dX1_isFull_4 (by decide) ?_
  refine lv_icmp_lt (tgt := 13) hx hb dX1_isFull_6 (by decide) (fun c1 => ?_) (fun c1 => ?_)
  · have h := itp c1 h
    refine lv_iconst (v := 0) hx hb dX1_isFull_13 (by decide) ?_
    exact hret _ _ _ dX1_isFull_14 (by decide) h
  · have h := itn c1 h
    refine lv_iconst (v := 1) hx hb dX1_isFull_9 (by decide) ?_
    refine lv_goto (tgt := 14) hx hb dX1_isFull_10 (by decide) ?_
    exact hret _ _ _ dX1_isFull_14 (by decide) h
-- X1_act
theorem dX1_act_0 : decode cX1_act 0 = .ok (.aload_n 0, 1) := by decide +kernel
theorem dX1_act_1 : decode cX1_act 1 = .ok (.getfield 38, 3) := by decide +kernel
theorem dX1_act_4 : decode cX1_act 4 = .ok (.ifCond .lt 10, 3) := by decide +kernel
theorem dX1_act_7 : decode cX1_act 7 = .ok (.aload_n 0, 1) := by decide +kernel
theorem dX1_act_8 : decode cX1_act 8 = .ok (.invokevirtual 47, 3) := by decide +kernel
theorem dX1_act_11 : decode cX1_act 11 = .ok (.ifCond .eq 4, 3) := by decide +kernel
theorem dX1_act_14 : decode cX1_act 14 = .ok (.return_, 1) := by decide +kernel
theorem dX1_act_15 : decode cX1_act 15 = .ok (.aload_n 0, 1) := by decide +kernel
theorem dX1_act_16 : decode cX1_act 16 = .ok (.dup, 1) := by decide +kernel
theorem dX1_act_17 : decode cX1_act 17 = .ok (.getfield 38, 3) := by decide +kernel
theorem dX1_act_20 : decode cX1_act 20 = .ok (.iconst 1, 1) := by decide +kernel
theorem dX1_act_21 : decode cX1_act 21 = .ok (.iadd, 1) := by decide +kernel
theorem dX1_act_22 : decode cX1_act 22 = .ok (.putfield 38, 3) := by decide +kernel
theorem dX1_act_25 : decode cX1_act 25 = .ok (.aload_n 0, 1) := by decide +kernel
theorem dX1_act_26 : decode cX1_act 26 = .ok (.getfield 18, 3) := by decide +kernel
theorem dX1_act_29 : decode cX1_act 29 = .ok (.aload_n 0, 1) := by decide +kernel
theorem dX1_act_30 : decode cX1_act 30 = .ok (.getfield 38, 3) := by decide +kernel
theorem dX1_act_33 : decode cX1_act 33 = .ok (.iload_n 1, 1) := by decide +kernel
theorem dX1_act_34 : decode cX1_act 34 = .ok (.iastore, 1) := by decide +kernel
theorem dX1_act_35 : decode cX1_act 35 = .ok (.aload_n 0, 1) := by decide +kernel
theorem dX1_act_36 : decode cX1_act 36 = .ok (.getfield 21, 3) := by decide +kernel
theorem dX1_act_39 : decode cX1_act 39 = .ok (.aload_n 0, 1) := by decide +kernel
theorem dX1_act_40 : decode cX1_act 40 = .ok (.getfield 38, 3) := by decide +kernel
theorem dX1_act_43 : decode cX1_act 43 = .ok (.iload_n 2, 1) := by decide +kernel
theorem dX1_act_44 : decode cX1_act 44 = .ok (.iastore, 1) := by decide +kernel
theorem dX1_act_45 : decode cX1_act 45 = .ok (.aload_n 0, 1) := by decide +kernel
theorem dX1_act_46 : decode cX1_act 46 = .ok (.getfield 24, 3) := by decide +kernel
theorem dX1_act_49 : decode cX1_act 49 = .ok (.aload_n 0, 1) := by decide +kernel
theorem dX1_act_50 : decode cX1_act 50 = .ok (.getfield 38, 3) := by decide +kernel
theorem dX1_act_53 : decode cX1_act 53 = .ok (.iload_n 3, 1) := by decide +kernel
theorem dX1_act_54 : decode cX1_act 54 = .ok (.iastore, 1) := by decide +kernel
theorem dX1_act_55 : decode cX1_act 55 = .ok (.return_, 1) := by decide +kernel
noncomputable def fX1_act  (t_rows : Nat → Int32) (t_sizes : Nat → Int32) (t_rooms : Nat → Int32) (t_acts : Int32) (v1 : Int32) (v2 : Int32) (v3 : Int32) : Option ((Nat → Int32) × (Nat → Int32) × (Nat → Int32) × Int32) := (if t_acts < 0 then some (t_rows, t_sizes, t_rooms, t_acts) else (if (fX1_isFull t_acts) = 0 then chk 31 (t_acts + 1) (chk 31 (t_acts + 1) (chk 31 (t_acts + 1) (some (upd t_rows ((t_acts + 1).toNatClampNeg) v1, upd t_sizes ((t_acts + 1).toNatClampNeg) v2, upd t_rooms ((t_acts + 1).toNatClampNeg) v3, t_acts + 1)))) else some (t_rows, t_sizes, t_rooms, t_acts)))
set_option maxHeartbeats 4000000 in
set_option maxRecDepth 100000 in
theorem ctX1_act (l : Launch) (g : GT) (sz : Nat) (a_t : Nat → Nat) (t_told : Int32) (t_lines : Int32) (t_kinds : Int32) (t_acts : Int32) (t_rows : Nat → Int32) (t_sizes : Nat → Int32) (t_rooms : Nat → Int32) (v1 : Int32) (v2 : Int32) (v3 : Int32) (o_t_rows : Nat → Int32) (o_t_sizes : Nat → Int32) (o_t_rooms : Nat → Int32) (o_t_acts : Int32) (h : fX1_act t_rows t_sizes t_rooms t_acts v1 v2 v3 = some (o_t_rows, o_t_sizes, o_t_rooms, o_t_acts)) : Met l yX1_act (Cond.code yX1_act cX1_act 4 none :: Tw) ⟨1, 0, 0, 20⟩ (va_Pc [.ref ((a_t 0)), .int v1, .int v2, .int v3] (rwB g [((a_t 0), .inr (1, [.ref (a_t 1), .ref (a_t 2), .ref (a_t 3), .ref (a_t 4), .ref (a_t 5), .int t_told, .int t_lines, .int t_kinds, .int t_acts])), ((a_t 3), .inl (g.2.2.1 0, 31, .inl t_rows)), ((a_t 4), .inl (g.2.2.1 0, 31, .inl t_sizes)), ((a_t 5), .inl (g.2.2.1 0, 31, .inl t_rooms))] sz)) (va_Qv (fun (_ : Nat → Nat) => True) (fun u => rwE g (va_A [((a_t 0), .inr (1, [.ref (a_t 1), .ref (a_t 2), .ref (a_t 3), .ref (a_t 4), .ref (a_t 5), .int t_told, .int t_lines, .int t_kinds, .int t_acts])), ((a_t 3), .inl (g.2.2.1 0, 31, .inl t_rows)), ((a_t 4), .inl (g.2.2.1 0, 31, .inl t_sizes)), ((a_t 5), .inl (g.2.2.1 0, 31, .inl t_rooms))] sz) [((a_t 0), .inr (1, [.ref (a_t 1), .ref (a_t 2), .ref (a_t 3), .ref (a_t 4), .ref (a_t 5), .int t_told, .int t_lines, .int t_kinds, .int o_t_acts])), ((a_t 3), .inl (g.2.2.1 0, 31, .inl o_t_rows)), ((a_t 4), .inl (g.2.2.1 0, 31, .inl o_t_sizes)), ((a_t 5), .inl (g.2.2.1 0, 31, .inl o_t_rooms))]) (va_A [((a_t 0), .inr (1, [.ref (a_t 1), .ref (a_t 2), .ref (a_t 3), .ref (a_t 4), .ref (a_t 5), .int t_told, .int t_lines, .int t_kinds, .int t_acts])), ((a_t 3), .inl (g.2.2.1 0, 31, .inl t_rows)), ((a_t 4), .inl (g.2.2.1 0, 31, .inl t_sizes)), ((a_t 5), .inl (g.2.2.1 0, 31, .inl t_rooms))] sz)) 0 0 (va_A [((a_t 0), .inr (1, [.ref (a_t 1), .ref (a_t 2), .ref (a_t 3), .ref (a_t 4), .ref (a_t 5), .int t_told, .int t_lines, .int t_kinds, .int t_acts])), ((a_t 3), .inl (g.2.2.1 0, 31, .inl t_rows)), ((a_t 4), .inl (g.2.2.1 0, 31, .inl t_sizes)), ((a_t 5), .inl (g.2.2.1 0, 31, .inl t_rooms))] sz) := by
  refine rw_metv (by decide) (Nat.le_of_ble_eq_true rfl) (lv0 := [(0, .ref ((a_t 0))), (1, .int v1), (2, .int v2), (3, .int v3)]) rfl ?_
  intro p e s m args below meth c ls Q A cx hret hG hAb hb0 hA hP hD hl
  have hx := cx.1
  have hb := cx.2.1
  have hG0 := hG
  have hGk : ∀ {H : Heap} {locs : List Loc}, va_S A s.heap H locs → GE g s H := fun hS => hG0.keptS hAb hS
  have hSb : ∀ {H : Heap} {locs : List Loc}, va_S A s.heap H locs → va_S (fun a => g.1 ≤ a) s.heap H locs := fun hS => ⟨hS.1, fun q h1 h2 => hS.2.1 q h1 (fun z => h2 (hAb q z)), fun l hl => hAb _ (hS.2.2 l hl)⟩
  have hS : va_S A s.heap s.heap [] := va_S.rf
  have hrt : ∀ (u : Nat → Nat) (pc : Nat) (ls : Array Slot) (x_t_rows : Nat → Int32) (x_t_sizes : Nat → Int32) (x_t_rooms : Nat → Int32) (x_t_acts : Int32) (H : Heap) (locs : List Loc), decode cX1_act pc = .ok (.return_, 1) → some (x_t_rows, x_t_sizes, x_t_rooms, x_t_acts) = some (o_t_rows, o_t_sizes, o_t_rooms, o_t_acts) → va_P g.2.1 vwCl [((a_t 0), .inr (1, [.ref (a_t 1), .ref (a_t 2), .ref (a_t 3), .ref (a_t 4), .ref (a_t 5), .int t_told, .int t_lines, .int t_kinds, .int x_t_acts])), ((a_t 3), .inl (g.2.2.1 0, 31, .inl x_t_rows)), ((a_t 4), .inl (g.2.2.1 0, 31, .inl x_t_sizes)), ((a_t 5), .inl (g.2.2.1 0, 31, .inl x_t_rooms))] H → va_D A [((a_t 0), .inr (1, [.ref (a_t 1), .ref (a_t 2), .ref (a_t 3), .ref (a_t 4), .ref (a_t 5), .int t_told, .int t_lines, .int t_kinds, .int x_t_acts])), ((a_t 3), .inl (g.2.2.1 0, 31, .inl x_t_rows)), ((a_t 4), .inl (g.2.2.1 0, 31, .inl x_t_sizes)), ((a_t 5), .inl (g.2.2.1 0, 31, .inl x_t_rooms))] → va_S A s.heap H locs → W p l e ⟨1, 0, 0, 20⟩ s m args below meth c H locs 0 0 Q (F0 m pc ls []) := by
    intro u pc ls x_t_rows x_t_sizes x_t_rooms x_t_acts H locs hd h hP hD hS
    cases h
    exact hret u _ _ _ _ hd hP hD hS
  unfold fX1_act at h
  refine lv_aload_n hx hb dX1_act_0 rfl (lv_at hl 0 rfl) ?_
  refine xa_get (C := RX1) (T := TX1) (N := 9) cx hG hP 0 rfl rfl uX1 8 (by decide) lf_X1_38 rfl dX1_act_1 ?_
  refine lv_if_lt (tgt := 14) hx hb dX1_act_4 (by decide) (fun c1 => ?_) (fun c1 => ?_)
  · have h := itp c1 h
    exact hrt (fun _ => 0) _ _ t_rows t_sizes t_rooms t_acts _ _ dX1_act_14 h (hP.sub [0, 1, 2, 3] rfl) (hD.sub [0, 1, 2, 3] (by decide) rfl) hS
  · have h := itn c1 h
    refine lv_aload_n hx hb dX1_act_7 rfl (lv_at hl 0 rfl) ?_
    refine ro_z (runV (As := []) (rest := []) cx hl.1 (ctX1_isFull l g a_t t_told t_lines t_kinds t_acts (fX1_isFull t_acts) rfl) kmX1_isFull kvX1_isFull lm_X1_47 ⟨rfl, rfl⟩ ⟨Nat.le_of_ble_eq_true rfl, Nat.le_of_ble_eq_true rfl⟩ (roV (q0 := 0) (ci := 1) hG (hP.sub [0] rfl) hP rfl rfl) rfl rfl (Nat.le_of_ble_eq_true rfl) dX1_act_8 ⟨Nat.le_of_ble_eq_true rfl, Nat.le_of_ble_eq_true rfl⟩) (fun hz2 => ?_)
    refine lv_if_eq (tgt := 15) hx hb dX1_act_11 (by decide) (fun c3 => ?_) (fun c3 => ?_)
    · have h := itp c3 h
      refine lv_aload_n hx hb dX1_act_15 rfl (lv_at hl 0 rfl) ?_
      refine lv_dup hx hb dX1_act_16 rfl ?_
      refine xa_get (C := RX1) (T := TX1) (N := 9) cx hG hP 0 rfl rfl uX1 8 (by decide) lf_X1_38 rfl dX1_act_17 ?_
      refine lv_iconst (v := 1) hx hb dX1_act_20 (by decide) ?_
      refine lv_iadd hx hb dX1_act_21 ?_
      refine xw_put (C := RX1) (T := TX1) (N := 9) (ty := .int) (v := .int (t_acts + 1)) (ws' := [((a_t 0), .inr (1, [.ref (a_t 1), .ref (a_t 2), .ref (a_t 3), .ref (a_t 4), .ref (a_t 5), .int t_told, .int t_lines, .int t_kinds, .int (t_acts + 1)])), ((a_t 3), .inl (g.2.2.1 0, 31, .inl t_rows)), ((a_t 4), .inl (g.2.2.1 0, 31, .inl t_sizes)), ((a_t 5), .inl (g.2.2.1 0, 31, .inl t_rooms))]) cx hG hP hD hS 0 rfl rfl uX1 tyX1 tyX1_ok nmX1 8 (by decide) lf_X1_38 rfl (by decide +kernel) rfl rfl (Nat.le_of_ble_eq_true rfl) rfl dX1_act_22 (fun H locs hP hD hS => ?_)
      have hG := hGk hS
      refine lv_aload_n hx hb dX1_act_25 rfl (lv_at hl 0 rfl) ?_
      refine xa_get (C := RX1) (T := TX1) (N := 9) cx hG hP 0 rfl rfl uX1 2 (by decide) lf_X1_18 rfl dX1_act_26 ?_
      refine lv_aload_n hx hb dX1_act_29 rfl (lv_at hl 0 rfl) ?_
      refine xa_get (C := RX1) (T := TX1) (N := 9) cx hG hP 0 rfl rfl uX1 8 (by decide) lf_X1_38 rfl dX1_act_30 ?_
      refine lv_iload_n hx hb dX1_act_33 rfl (lv_at hl 1 rfl) ?_
      obtain ⟨hi4, h⟩ := chk_out h
      refine xw_iast (ws' := [((a_t 0), .inr (1, [.ref (a_t 1), .ref (a_t 2), .ref (a_t 3), .ref (a_t 4), .ref (a_t 5), .int t_told, .int t_lines, .int t_kinds, .int (t_acts + 1)])), ((a_t 3), .inl (g.2.2.1 0, 31, .inl (upd t_rows ((t_acts + 1).toNatClampNeg) v1))), ((a_t 4), .inl (g.2.2.1 0, 31, .inl t_sizes)), ((a_t 5), .inl (g.2.2.1 0, 31, .inl t_rooms))]) (k := ((t_acts + 1).toNatClampNeg)) cx hG hP hD hS 1 rfl hi4 rfl rfl dX1_act_34 (fun H locs hP hD hS => ?_)
      have hG := hGk hS
      refine lv_aload_n hx hb dX1_act_35 rfl (lv_at hl 0 rfl) ?_
      refine xa_get (C := RX1) (T := TX1) (N := 9) cx hG hP 0 rfl rfl uX1 3 (by decide) lf_X1_21 rfl dX1_act_36 ?_
      refine lv_aload_n hx hb dX1_act_39 rfl (lv_at hl 0 rfl) ?_
      refine xa_get (C := RX1) (T := TX1) (N := 9) cx hG hP 0 rfl rfl uX1 8 (by decide) lf_X1_38 rfl dX1_act_40 ?_
      refine lv_iload_n hx hb dX1_act_43 rfl (lv_at hl 2 rfl) ?_
      obtain ⟨hi5, h⟩ := chk_out h
      refine xw_iast (ws' := [((a_t 0), .inr (1, [.ref (a_t 1), .ref (a_t 2), .ref (a_t 3), .ref (a_t 4), .ref (a_t 5), .int t_told, .int t_lines, .int t_kinds, .int (t_acts + 1)])), ((a_t 3), .inl (g.2.2.1 0, 31, .inl (upd t_rows ((t_acts + 1).toNatClampNeg) v1))), ((a_t 4), .inl (g.2.2.1 0, 31, .inl (upd t_sizes ((t_acts + 1).toNatClampNeg) v2))), ((a_t 5), .inl (g.2.2.1 0, 31, .inl t_rooms))]) (k := ((t_acts + 1).toNatClampNeg)) cx hG hP hD hS 2 rfl hi5 rfl rfl dX1_act_44 (fun H locs hP hD hS => ?_)
      have hG := hGk hS
      refine lv_aload_n hx hb dX1_act_45 rfl (lv_at hl 0 rfl) ?_
      refine xa_get (C := RX1) (T := TX1) (N := 9) cx hG hP 0 rfl rfl uX1 4 (by decide) lf_X1_24 rfl dX1_act_46 ?_
      refine lv_aload_n hx hb dX1_act_49 rfl (lv_at hl 0 rfl) ?_
      refine xa_get (C := RX1) (T := TX1) (N := 9) cx hG hP 0 rfl rfl uX1 8 (by decide) lf_X1_38 rfl dX1_act_50 ?_
      refine lv_iload_n hx hb dX1_act_53 rfl (lv_at hl 3 rfl) ?_
      obtain ⟨hi6, h⟩ := chk_out h
      refine xw_iast (ws' := [((a_t 0), .inr (1, [.ref (a_t 1), .ref (a_t 2), .ref (a_t 3), .ref (a_t 4), .ref (a_t 5), .int t_told, .int t_lines, .int t_kinds, .int (t_acts + 1)])), ((a_t 3), .inl (g.2.2.1 0, 31, .inl (upd t_rows ((t_acts + 1).toNatClampNeg) v1))), ((a_t 4), .inl (g.2.2.1 0, 31, .inl (upd t_sizes ((t_acts + 1).toNatClampNeg) v2))), ((a_t 5), .inl (g.2.2.1 0, 31, .inl (upd t_rooms ((t_acts + 1).toNatClampNeg) v3)))]) (k := ((t_acts + 1).toNatClampNeg)) cx hG hP hD hS 3 rfl hi6 rfl rfl dX1_act_54 (fun H locs hP hD hS => ?_)
      have hG := hGk hS
      exact hrt (fun _ => 0) _ _ (upd t_rows ((t_acts + 1).toNatClampNeg) v1) (upd t_sizes ((t_acts + 1).toNatClampNeg) v2) (upd t_rooms ((t_acts + 1).toNatClampNeg) v3) (t_acts + 1) _ _ dX1_act_55 h (hP.sub [0, 1, 2, 3] rfl) (hD.sub [0, 1, 2, 3] (by decide) rfl) hS
    · have h := itn c3 h
      exact hrt (fun _ => 0) _ _ t_rows t_sizes t_rooms t_acts _ _ dX1_act_14 h (hP.sub [0, 1, 2, 3] rfl) (hD.sub [0, 1, 2, 3] (by decide) rfl) hS
-- X1_row
theorem dX1_row_0 : decode cX1_row 0 = .ok (.aload_n 0, 1) := by decide +kernel
theorem dX1_row_1 : decode cX1_row 1 = .ok (.getfield 38, 3) := by decide +kernel
theorem dX1_row_4 : decode cX1_row 4 = .ok (.ifCond .lt 15, 3) := by decide +kernel
theorem dX1_row_7 : decode cX1_row 7 = .ok (.aload_n 0, 1) := by decide +kernel
theorem dX1_row_8 : decode cX1_row 8 = .ok (.getfield 38, 3) := by decide +kernel
theorem dX1_row_11 : decode cX1_row 11 = .ok (.aload_n 0, 1) := by decide +kernel
theorem dX1_row_12 : decode cX1_row 12 = .ok (.getfield 18, 3) := by decide +kernel
theorem dX1_row_15 : decode cX1_row 15 = .ok (.arraylength, 1) := by decide +kernel
theorem dX1_row_16 : decode cX1_row 16 = .ok (.if_icmp .lt 7, 3) := by decide +kernel
theorem dX1_row_19 : decode cX1_row 19 = .ok (.iconst 0, 1) := by decide +kernel
theorem dX1_row_20 : decode cX1_row 20 = .ok (.goto 12, 3) := by decide +kernel
theorem dX1_row_23 : decode cX1_row 23 = .ok (.aload_n 0, 1) := by decide +kernel
theorem dX1_row_24 : decode cX1_row 24 = .ok (.getfield 18, 3) := by decide +kernel
theorem dX1_row_27 : decode cX1_row 27 = .ok (.aload_n 0, 1) := by decide +kernel
theorem dX1_row_28 : decode cX1_row 28 = .ok (.getfield 38, 3) := by decide +kernel
theorem dX1_row_31 : decode cX1_row 31 = .ok (.iaload, 1) := by decide +kernel
theorem dX1_row_32 : decode cX1_row 32 = .ok (.ireturn, 1) := by decide +kernel
noncomputable def fX1_row  (t_rows : Nat → Int32) (t_acts : Int32) : Option (Int32) := (if t_acts < 0 then some (0) else (if t_acts < 31 then chk 31 t_acts (some (t_rows t_acts.toNatClampNeg)) else some (0)))
set_option maxHeartbeats 4000000 in
set_option maxRecDepth 100000 in
theorem ctX1_row (l : Launch) (g : GT) (a_t : Nat → Nat) (t_told : Int32) (t_lines : Int32) (t_kinds : Int32) (t_acts : Int32) (t_rows : Nat → Int32) (o : Int32) (h : fX1_row t_rows t_acts = some o) : Met l yX1_row (Cond.code yX1_row cX1_row 1 (some .int) :: Tw) ⟨0, 0, 0, 0⟩ (va_Pc [.ref ((a_t 0))] (roB g [((a_t 0), .inr (1, [.ref (a_t 1), .ref (a_t 2), .ref (a_t 3), .ref (a_t 4), .ref (a_t 5), .int t_told, .int t_lines, .int t_kinds, .int t_acts])), ((a_t 3), .inl (g.2.2.1 0, 31, .inl t_rows))])) (vp_Si (fun x => x = o)) 0 0 (fun _ => False) := by
  refine ro_meti (by decide) (Nat.le_of_ble_eq_true rfl) (lv0 := [(0, .ref ((a_t 0)))]) rfl ?_
  intro p e s m args below meth c ls Q cx hret hG hP hl
  have hx := cx.1
  have hb := cx.2.1
  have hG0 := hG
  unfold fX1_row at h
  refine lv_aload_n hx hb dX1_row_0 rfl (lv_at hl 0 rfl) ?_
  refine xa_get (C := RX1) (T := TX1) (N := 9) cx hG hP 0 rfl rfl uX1 8 (by decide) lf_X1_38 rfl dX1_row_1 ?_
  refine lv_if_lt (tgt := 19) hx hb dX1_row_4 (by decide) (fun c1 => ?_) (fun c1 => ?_)
  · have h := itp c1 h
    refine lv_iconst (v := 0) hx hb dX1_row_19 (by decide) ?_
    refine lv_goto (tgt := 32) hx hb dX1_row_20 (by decide) ?_
    exact hret _ _ _ dX1_row_32 (Option.some.inj h)
  · have h := itn c1 h
    refine lv_aload_n hx hb dX1_row_7 rfl (lv_at hl 0 rfl) ?_
    refine xa_get (C := RX1) (T := TX1) (N := 9) cx hG hP 0 rfl rfl uX1 8 (by decide) lf_X1_38 rfl dX1_row_8 ?_
    refine lv_aload_n hx hb dX1_row_11 rfl (lv_at hl 0 rfl) ?_
    refine xa_get (C := RX1) (T := TX1) (N := 9) cx hG hP 0 rfl rfl uX1 2 (by decide) lf_X1_18 rfl dX1_row_12 ?_
    refine xa_len cx hG hP 1 rfl 0 rfl (v := 31) rfl dX1_row_15 ?_
    refine lv_icmp_lt (tgt := 23) hx hb dX1_row_16 (by decide) (fun c2 => ?_) (fun c2 => ?_)
    · have h := itp c2 h
      refine lv_aload_n hx hb dX1_row_23 rfl (lv_at hl 0 rfl) ?_
      refine xa_get (C := RX1) (T := TX1) (N := 9) cx hG hP 0 rfl rfl uX1 2 (by decide) lf_X1_18 rfl dX1_row_24 ?_
      refine lv_aload_n hx hb dX1_row_27 rfl (lv_at hl 0 rfl) ?_
      refine xa_get (C := RX1) (T := TX1) (N := 9) cx hG hP 0 rfl rfl uX1 8 (by decide) lf_X1_38 rfl dX1_row_28 ?_
      obtain ⟨hi3, h⟩ := chk_out h
      refine xa_iald cx hG hP 1 rfl hi3 rfl dX1_row_31 ?_
      exact hret _ _ _ dX1_row_32 (Option.some.inj h)
    · have h := itn c2 h
      refine lv_iconst (v := 0) hx hb dX1_row_19 (by decide) ?_
      refine lv_goto (tgt := 32) hx hb dX1_row_20 (by decide) ?_
      exact hret _ _ _ dX1_row_32 (Option.some.inj h)
-- X1_plies
theorem dX1_plies_0 : decode cX1_plies 0 = .ok (.aload_n 0, 1) := by decide +kernel
theorem dX1_plies_1 : decode cX1_plies 1 = .ok (.getfield 38, 3) := by decide +kernel
theorem dX1_plies_4 : decode cX1_plies 4 = .ok (.ifCond .lt 15, 3) := by decide +kernel
theorem dX1_plies_7 : decode cX1_plies 7 = .ok (.aload_n 0, 1) := by decide +kernel
theorem dX1_plies_8 : decode cX1_plies 8 = .ok (.getfield 38, 3) := by decide +kernel
theorem dX1_plies_11 : decode cX1_plies 11 = .ok (.aload_n 0, 1) := by decide +kernel
theorem dX1_plies_12 : decode cX1_plies 12 = .ok (.getfield 21, 3) := by decide +kernel
theorem dX1_plies_15 : decode cX1_plies 15 = .ok (.arraylength, 1) := by decide +kernel
theorem dX1_plies_16 : decode cX1_plies 16 = .ok (.if_icmp .lt 7, 3) := by decide +kernel
theorem dX1_plies_19 : decode cX1_plies 19 = .ok (.iconst 0, 1) := by decide +kernel
theorem dX1_plies_20 : decode cX1_plies 20 = .ok (.goto 12, 3) := by decide +kernel
theorem dX1_plies_23 : decode cX1_plies 23 = .ok (.aload_n 0, 1) := by decide +kernel
theorem dX1_plies_24 : decode cX1_plies 24 = .ok (.getfield 21, 3) := by decide +kernel
theorem dX1_plies_27 : decode cX1_plies 27 = .ok (.aload_n 0, 1) := by decide +kernel
theorem dX1_plies_28 : decode cX1_plies 28 = .ok (.getfield 38, 3) := by decide +kernel
theorem dX1_plies_31 : decode cX1_plies 31 = .ok (.iaload, 1) := by decide +kernel
theorem dX1_plies_32 : decode cX1_plies 32 = .ok (.ireturn, 1) := by decide +kernel
noncomputable def fX1_plies  (t_sizes : Nat → Int32) (t_acts : Int32) : Option (Int32) := (if t_acts < 0 then some (0) else (if t_acts < 31 then chk 31 t_acts (some (t_sizes t_acts.toNatClampNeg)) else some (0)))
set_option maxHeartbeats 4000000 in
set_option maxRecDepth 100000 in
theorem ctX1_plies (l : Launch) (g : GT) (a_t : Nat → Nat) (t_told : Int32) (t_lines : Int32) (t_kinds : Int32) (t_acts : Int32) (t_sizes : Nat → Int32) (o : Int32) (h : fX1_plies t_sizes t_acts = some o) : Met l yX1_plies (Cond.code yX1_plies cX1_plies 1 (some .int) :: Tw) ⟨0, 0, 0, 0⟩ (va_Pc [.ref ((a_t 0))] (roB g [((a_t 0), .inr (1, [.ref (a_t 1), .ref (a_t 2), .ref (a_t 3), .ref (a_t 4), .ref (a_t 5), .int t_told, .int t_lines, .int t_kinds, .int t_acts])), ((a_t 4), .inl (g.2.2.1 0, 31, .inl t_sizes))])) (vp_Si (fun x => x = o)) 0 0 (fun _ => False) := by
  refine ro_meti (by decide) (Nat.le_of_ble_eq_true rfl) (lv0 := [(0, .ref ((a_t 0)))]) rfl ?_
  intro p e s m args below meth c ls Q cx hret hG hP hl
  have hx := cx.1
  have hb := cx.2.1
  have hG0 := hG
  unfold fX1_plies at h
  refine lv_aload_n hx hb dX1_plies_0 rfl (lv_at hl 0 rfl) ?_
  refine xa_get (C := RX1) (T := TX1) (N := 9) cx hG hP 0 rfl rfl uX1 8 (by decide) lf_X1_38 rfl dX1_plies_1 ?_
  refine lv_if_lt (tgt := 19) hx hb dX1_plies_4 (by decide) (fun c1 => ?_) (fun c1 => ?_)
  · have h := itp c1 h
    refine lv_iconst (v := 0) hx hb dX1_plies_19 (by decide) ?_
    refine lv_goto (tgt := 32) hx hb dX1_plies_20 (by decide) ?_
    exact hret _ _ _ dX1_plies_32 (Option.some.inj h)
  · have h := itn c1 h
    refine lv_aload_n hx hb dX1_plies_7 rfl (lv_at hl 0 rfl) ?_
    refine xa_get (C := RX1) (T := TX1) (N := 9) cx hG hP 0 rfl rfl uX1 8 (by decide) lf_X1_38 rfl dX1_plies_8 ?_
    refine lv_aload_n hx hb dX1_plies_11 rfl (lv_at hl 0 rfl) ?_
    refine xa_get (C := RX1) (T := TX1) (N := 9) cx hG hP 0 rfl rfl uX1 3 (by decide) lf_X1_21 rfl dX1_plies_12 ?_
    refine xa_len cx hG hP 1 rfl 0 rfl (v := 31) rfl dX1_plies_15 ?_
    refine lv_icmp_lt (tgt := 23) hx hb dX1_plies_16 (by decide) (fun c2 => ?_) (fun c2 => ?_)
    · have h := itp c2 h
      refine lv_aload_n hx hb dX1_plies_23 rfl (lv_at hl 0 rfl) ?_
      refine xa_get (C := RX1) (T := TX1) (N := 9) cx hG hP 0 rfl rfl uX1 3 (by decide) lf_X1_21 rfl dX1_plies_24 ?_
      refine lv_aload_n hx hb dX1_plies_27 rfl (lv_at hl 0 rfl) ?_
      refine xa_get (C := RX1) (T := TX1) (N := 9) cx hG hP 0 rfl rfl uX1 8 (by decide) lf_X1_38 rfl dX1_plies_28 ?_
      obtain ⟨hi3, h⟩ := chk_out h
      refine xa_iald cx hG hP 1 rfl hi3 rfl dX1_plies_31 ?_
      exact hret _ _ _ dX1_plies_32 (Option.some.inj h)
    · have h := itn c2 h
      refine lv_iconst (v := 0) hx hb dX1_plies_19 (by decide) ?_
      refine lv_goto (tgt := 32) hx hb dX1_plies_20 (by decide) ?_
      exact hret _ _ _ dX1_plies_32 (Option.some.inj h)
-- X1_roomNow
theorem dX1_roomNow_0 : decode cX1_roomNow 0 = .ok (.aload_n 0, 1) := by decide +kernel
theorem dX1_roomNow_1 : decode cX1_roomNow 1 = .ok (.getfield 38, 3) := by decide +kernel
theorem dX1_roomNow_4 : decode cX1_roomNow 4 = .ok (.ifCond .lt 15, 3) := by decide +kernel
theorem dX1_roomNow_7 : decode cX1_roomNow 7 = .ok (.aload_n 0, 1) := by decide +kernel
theorem dX1_roomNow_8 : decode cX1_roomNow 8 = .ok (.getfield 38, 3) := by decide +kernel
theorem dX1_roomNow_11 : decode cX1_roomNow 11 = .ok (.aload_n 0, 1) := by decide +kernel
theorem dX1_roomNow_12 : decode cX1_roomNow 12 = .ok (.getfield 24, 3) := by decide +kernel
theorem dX1_roomNow_15 : decode cX1_roomNow 15 = .ok (.arraylength, 1) := by decide +kernel
theorem dX1_roomNow_16 : decode cX1_roomNow 16 = .ok (.if_icmp .lt 7, 3) := by decide +kernel
theorem dX1_roomNow_19 : decode cX1_roomNow 19 = .ok (.iconst 0, 1) := by decide +kernel
theorem dX1_roomNow_20 : decode cX1_roomNow 20 = .ok (.goto 12, 3) := by decide +kernel
theorem dX1_roomNow_23 : decode cX1_roomNow 23 = .ok (.aload_n 0, 1) := by decide +kernel
theorem dX1_roomNow_24 : decode cX1_roomNow 24 = .ok (.getfield 24, 3) := by decide +kernel
theorem dX1_roomNow_27 : decode cX1_roomNow 27 = .ok (.aload_n 0, 1) := by decide +kernel
theorem dX1_roomNow_28 : decode cX1_roomNow 28 = .ok (.getfield 38, 3) := by decide +kernel
theorem dX1_roomNow_31 : decode cX1_roomNow 31 = .ok (.iaload, 1) := by decide +kernel
theorem dX1_roomNow_32 : decode cX1_roomNow 32 = .ok (.ireturn, 1) := by decide +kernel
noncomputable def fX1_roomNow  (t_rooms : Nat → Int32) (t_acts : Int32) : Option (Int32) := (if t_acts < 0 then some (0) else (if t_acts < 31 then chk 31 t_acts (some (t_rooms t_acts.toNatClampNeg)) else some (0)))
set_option maxHeartbeats 4000000 in
set_option maxRecDepth 100000 in
theorem ctX1_roomNow (l : Launch) (g : GT) (a_t : Nat → Nat) (t_told : Int32) (t_lines : Int32) (t_kinds : Int32) (t_acts : Int32) (t_rooms : Nat → Int32) (o : Int32) (h : fX1_roomNow t_rooms t_acts = some o) : Met l yX1_roomNow (Cond.code yX1_roomNow cX1_roomNow 1 (some .int) :: Tw) ⟨0, 0, 0, 0⟩ (va_Pc [.ref ((a_t 0))] (roB g [((a_t 0), .inr (1, [.ref (a_t 1), .ref (a_t 2), .ref (a_t 3), .ref (a_t 4), .ref (a_t 5), .int t_told, .int t_lines, .int t_kinds, .int t_acts])), ((a_t 5), .inl (g.2.2.1 0, 31, .inl t_rooms))])) (vp_Si (fun x => x = o)) 0 0 (fun _ => False) := by
  refine ro_meti (by decide) (Nat.le_of_ble_eq_true rfl) (lv0 := [(0, .ref ((a_t 0)))]) rfl ?_
  intro p e s m args below meth c ls Q cx hret hG hP hl
  have hx := cx.1
  have hb := cx.2.1
  have hG0 := hG
  unfold fX1_roomNow at h
  refine lv_aload_n hx hb dX1_roomNow_0 rfl (lv_at hl 0 rfl) ?_
  refine xa_get (C := RX1) (T := TX1) (N := 9) cx hG hP 0 rfl rfl uX1 8 (by decide) lf_X1_38 rfl dX1_roomNow_1 ?_
  refine lv_if_lt (tgt := 19) hx hb dX1_roomNow_4 (by decide) (fun c1 => ?_) (fun c1 => ?_)
  · have h := itp c1 h
    refine lv_iconst (v := 0) hx hb dX1_roomNow_19 (by decide) ?_
    refine lv_goto (tgt := 32) hx hb dX1_roomNow_20 (by decide) ?_
    exact hret _ _ _ dX1_roomNow_32 (Option.some.inj h)
  · have h := itn c1 h
    refine lv_aload_n hx hb dX1_roomNow_7 rfl (lv_at hl 0 rfl) ?_
    refine xa_get (C := RX1) (T := TX1) (N := 9) cx hG hP 0 rfl rfl uX1 8 (by decide) lf_X1_38 rfl dX1_roomNow_8 ?_
    refine lv_aload_n hx hb dX1_roomNow_11 rfl (lv_at hl 0 rfl) ?_
    refine xa_get (C := RX1) (T := TX1) (N := 9) cx hG hP 0 rfl rfl uX1 4 (by decide) lf_X1_24 rfl dX1_roomNow_12 ?_
    refine xa_len cx hG hP 1 rfl 0 rfl (v := 31) rfl dX1_roomNow_15 ?_
    refine lv_icmp_lt (tgt := 23) hx hb dX1_roomNow_16 (by decide) (fun c2 => ?_) (fun c2 => ?_)
    · have h := itp c2 h
      refine lv_aload_n hx hb dX1_roomNow_23 rfl (lv_at hl 0 rfl) ?_
      refine xa_get (C := RX1) (T := TX1) (N := 9) cx hG hP 0 rfl rfl uX1 4 (by decide) lf_X1_24 rfl dX1_roomNow_24 ?_
      refine lv_aload_n hx hb dX1_roomNow_27 rfl (lv_at hl 0 rfl) ?_
      refine xa_get (C := RX1) (T := TX1) (N := 9) cx hG hP 0 rfl rfl uX1 8 (by decide) lf_X1_38 rfl dX1_roomNow_28 ?_
      obtain ⟨hi3, h⟩ := chk_out h
      refine xa_iald cx hG hP 1 rfl hi3 rfl dX1_roomNow_31 ?_
      exact hret _ _ _ dX1_roomNow_32 (Option.some.inj h)
    · have h := itn c2 h
      refine lv_iconst (v := 0) hx hb dX1_roomNow_19 (by decide) ?_
      refine lv_goto (tgt := 32) hx hb dX1_roomNow_20 (by decide) ?_
      exact hret _ _ _ dX1_roomNow_32 (Option.some.inj h)
