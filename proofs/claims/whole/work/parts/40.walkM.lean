-- X8_in
theorem dX8_in_0 : decode cX8_in 0 = .ok (.lload_n 0, 1) := by decide +kernel
theorem dX8_in_1 : decode cX8_in 1 = .ok (.lload_n 2, 1) := by decide +kernel
theorem dX8_in_2 : decode cX8_in 2 = .ok (.lcmp, 1) := by decide +kernel
theorem dX8_in_3 : decode cX8_in 3 = .ok (.ifCond .lt 14, 3) := by decide +kernel
theorem dX8_in_6 : decode cX8_in 6 = .ok (.lload_n 0, 1) := by decide +kernel
theorem dX8_in_7 : decode cX8_in 7 = .ok (.lload 4, 2) := by decide +kernel
theorem dX8_in_9 : decode cX8_in 9 = .ok (.lcmp, 1) := by decide +kernel
theorem dX8_in_10 : decode cX8_in 10 = .ok (.ifCond .gt 7, 3) := by decide +kernel
theorem dX8_in_13 : decode cX8_in 13 = .ok (.iconst 1, 1) := by decide +kernel
theorem dX8_in_14 : decode cX8_in 14 = .ok (.goto 4, 3) := by decide +kernel
theorem dX8_in_17 : decode cX8_in 17 = .ok (.iconst 0, 1) := by decide +kernel
theorem dX8_in_18 : decode cX8_in 18 = .ok (.ireturn, 1) := by decide +kernel
noncomputable def fX8_in  (v0 : Int64) (v2 : Int64) (v4 : Int64) : Int32 := (if (lg_cmp v0 v2) < 0 then (0) else (if 0 < (lg_cmp v0 v4) then (0) else (1)))
set_option maxHeartbeats 4000000 in
set_option maxRecDepth 100000 in
theorem ctX8_in (l : Launch) (g : GT) (v0 : Int64) (v2 : Int64) (v4 : Int64) (o : Int32) (h : fX8_in v0 v2 v4 = o) : Met l yX8_in (Cond.code yX8_in cX8_in 6 (some .boolean) :: Tw) ⟨0, 0, 0, 0⟩ (va_Pc [.long v0, .long v2, .long v4] (roB g [])) (vp_Si (fun x => x = o ∧ (x = 0 ∨ x = 1))) 0 0 (fun _ => False) := by
  refine ro_metz (by decide) (Nat.le_of_ble_eq_true rfl) (lv0 := [(0, .long v0), (2, .long v2), (4, .long v4)]) rfl ?_
  intro p e s m args below meth c ls Q cx hret hG hP hl
  have hx := cx.1
  have hb := cx.2.1
  have hG0 := hG
  unfold fX8_in at h
  refine lv_lload_n hx hb dX8_in_0 rfl (lv_at hl 0 rfl) ?_
  refine lv_lload_n hx hb dX8_in_1 rfl (lv_at hl 1 rfl) ?_
  refine W.lcmp hx hb dX8_in_2 ?_
  refine lv_if_lt (tgt := 17) hx hb dX8_in_3 (by decide) (fun c1 => ?_) (fun c1 => ?_)
  · have h := itp c1 h
    refine lv_iconst (v := 0) hx hb dX8_in_17 (by decide) ?_
    exact hret _ _ _ dX8_in_18 (by decide) h
  · have h := itn c1 h
    refine lv_lload_n hx hb dX8_in_6 rfl (lv_at hl 0 rfl) ?_
    refine lv_lload hx hb dX8_in_7 (lv_at hl 2 rfl) ?_
    refine W.lcmp hx hb dX8_in_9 ?_
    refine lv_if_gt (tgt := 17) hx hb dX8_in_10 (by decide) (fun c2 => ?_) (fun c2 => ?_)
    · have h := itp c2 h
      refine lv_iconst (v := 0) hx hb dX8_in_17 (by decide) ?_
      exact hret _ _ _ dX8_in_18 (by decide) h
    · have h := itn c2 h
      refine lv_iconst (v := 1) hx hb dX8_in_13 (by decide) ?_
      refine lv_goto (tgt := 18) hx hb dX8_in_14 (by decide) ?_
      exact hret _ _ _ dX8_in_18 (by decide) h
-- X8_has
theorem dX8_has_0 : decode cX8_has 0 = .ok (.iload_n 0, 1) := by decide +kernel
theorem dX8_has_1 : decode cX8_has 1 = .ok (.iload_n 1, 1) := by decide +kernel
theorem dX8_has_2 : decode cX8_has 2 = .ok (.ishr, 1) := by decide +kernel
theorem dX8_has_3 : decode cX8_has 3 = .ok (.iconst 1, 1) := by decide +kernel
theorem dX8_has_4 : decode cX8_has 4 = .ok (.iand, 1) := by decide +kernel
theorem dX8_has_5 : decode cX8_has 5 = .ok (.iconst 1, 1) := by decide +kernel
theorem dX8_has_6 : decode cX8_has 6 = .ok (.if_icmp .ne 7, 3) := by decide +kernel
theorem dX8_has_9 : decode cX8_has 9 = .ok (.iconst 1, 1) := by decide +kernel
theorem dX8_has_10 : decode cX8_has 10 = .ok (.goto 4, 3) := by decide +kernel
theorem dX8_has_13 : decode cX8_has 13 = .ok (.iconst 0, 1) := by decide +kernel
theorem dX8_has_14 : decode cX8_has 14 = .ok (.ireturn, 1) := by decide +kernel
noncomputable def fX8_has  (v0 : Int32) (v1 : Int32) : Int32 := (if ((v0 >>> (v1 &&& 31)) &&& 1) = 1 then (1) else (0))
set_option maxHeartbeats 4000000 in
set_option maxRecDepth 100000 in
theorem ctX8_has (l : Launch) (g : GT) (v0 : Int32) (v1 : Int32) (o : Int32) (h : fX8_has v0 v1 = o) : Met l yX8_has (Cond.code yX8_has cX8_has 2 (some .boolean) :: Tw) ⟨0, 0, 0, 0⟩ (va_Pc [.int v0, .int v1] (roB g [])) (vp_Si (fun x => x = o ∧ (x = 0 ∨ x = 1))) 0 0 (fun _ => False) := by
  refine ro_metz (by decide) (Nat.le_of_ble_eq_true rfl) (lv0 := [(0, .int v0), (1, .int v1)]) rfl ?_
  intro p e s m args below meth c ls Q cx hret hG hP hl
  have hx := cx.1
  have hb := cx.2.1
  have hG0 := hG
  unfold fX8_has at h
  refine lv_iload_n hx hb dX8_has_0 rfl (lv_at hl 0 rfl) ?_
  refine lv_iload_n hx hb dX8_has_1 rfl (lv_at hl 1 rfl) ?_
  refine lv_ishr hx hb dX8_has_2 ?_
  refine lv_iconst (v := 1) hx hb dX8_has_3 (by decide) ?_
  refine lv_iand hx hb dX8_has_4 ?_
  refine lv_iconst (v := 1) hx hb dX8_has_5 (by decide) ?_
  refine lv_icmp_ne (tgt := 13) hx hb dX8_has_6 (by decide) (fun c1 => ?_) (fun c1 => ?_)
  · have h := itn c1 h
    refine lv_iconst (v := 0) hx hb dX8_has_13 (by decide) ?_
    exact hret _ _ _ dX8_has_14 (by decide) h
  · have h := itp c1 h
    refine lv_iconst (v := 1) hx hb dX8_has_9 (by decide) ?_
    refine lv_goto (tgt := 14) hx hb dX8_has_10 (by decide) ?_
    exact hret _ _ _ dX8_has_14 (by decide) h
-- X8_common
theorem dX8_common_0 : decode cX8_common 0 = .ok (.lload_n 0, 1) := by decide +kernel
theorem dX8_common_1 : decode cX8_common 1 = .ok (.invokestatic 3, 3) := by decide +kernel
theorem dX8_common_4 : decode cX8_common 4 = .ok (.lstore 4, 2) := by decide +kernel
theorem dX8_common_6 : decode cX8_common 6 = .ok (.lload_n 2, 1) := by decide +kernel
theorem dX8_common_7 : decode cX8_common 7 = .ok (.invokestatic 3, 3) := by decide +kernel
theorem dX8_common_10 : decode cX8_common 10 = .ok (.lstore 6, 2) := by decide +kernel
theorem dX8_common_12 : decode cX8_common 12 = .ok (.lload 6, 2) := by decide +kernel
theorem dX8_common_14 : decode cX8_common 14 = .ok (.lconst 0, 1) := by decide +kernel
theorem dX8_common_15 : decode cX8_common 15 = .ok (.lcmp, 1) := by decide +kernel
theorem dX8_common_16 : decode cX8_common 16 = .ok (.ifCond .eq 21, 3) := by decide +kernel
theorem dX8_common_19 : decode cX8_common 19 = .ok (.lload 4, 2) := by decide +kernel
theorem dX8_common_21 : decode cX8_common 21 = .ok (.lload 6, 2) := by decide +kernel
theorem dX8_common_23 : decode cX8_common 23 = .ok (.lrem, 1) := by decide +kernel
theorem dX8_common_24 : decode cX8_common 24 = .ok (.lstore 8, 2) := by decide +kernel
theorem dX8_common_26 : decode cX8_common 26 = .ok (.lload 6, 2) := by decide +kernel
theorem dX8_common_28 : decode cX8_common 28 = .ok (.lstore 4, 2) := by decide +kernel
theorem dX8_common_30 : decode cX8_common 30 = .ok (.lload 8, 2) := by decide +kernel
theorem dX8_common_32 : decode cX8_common 32 = .ok (.lstore 6, 2) := by decide +kernel
theorem dX8_common_34 : decode cX8_common 34 = .ok (.goto (-22), 3) := by decide +kernel
theorem dX8_common_37 : decode cX8_common 37 = .ok (.lload 4, 2) := by decide +kernel
theorem dX8_common_39 : decode cX8_common 39 = .ok (.lreturn, 1) := by decide +kernel
noncomputable def fX8_common_12  : Nat → Int64 → Int64 → Option (Int64)
  | 0, _, _ => none
  | n + 1, v4, v6 => (if (lg_cmp v6 0) = 0 then some v4 else nz v6 (fX8_common_12 n v6 (lrem v4 v6)))
theorem fX8_common_12_z  (v4 : Int64) (v6 : Int64) : fX8_common_12  0 v4 v6 = none := rfl
theorem fX8_common_12_s  (n : Nat) (v4 : Int64) (v6 : Int64) : fX8_common_12  (n + 1) v4 v6 = (if (lg_cmp v6 0) = 0 then some v4 else nz v6 (fX8_common_12 n v6 (lrem v4 v6))) := rfl
noncomputable def fX8_common  (v0 : Int64) (v2 : Int64) : Option (Int64) := fX8_common_12 FU (labs v0) (labs v2)
set_option maxHeartbeats 4000000 in
set_option maxRecDepth 100000 in
theorem ctX8_common (l : Launch) (g : GT) (v0 : Int64) (v2 : Int64) (o : Int64) (h : fX8_common v0 v2 = some o) : Met l yX8_common (Cond.code yX8_common cX8_common 10 (some .long) :: Tw) ⟨1, 0, 0, 26⟩ (va_Pc [.long v0, .long v2] (roB g [])) (vp_Sl (fun x => x = o)) 0 0 (fun _ => False) := by
  refine ro_metl (by decide) (Nat.le_of_ble_eq_true rfl) (lv0 := [(0, .long v0), (2, .long v2)]) rfl ?_
  intro p e s m args below meth c ls Q cx hret hG hP hl
  have hx := cx.1
  have hb := cx.2.1
  have hG0 := hG
  have w12 : ∀ (n : Nat) (v4 : Int64) (v6 : Int64) (ls : Array Slot), lv_has ls 10 [(4, .long v4), (6, .long v6)] → fX8_common_12  n v4 v6 = some o → W p l e ⟨1, 0, 0, 26⟩ s m args below meth c s.heap [] 0 0 Q (F0 m 12 ls []) := by
    intro n
    induction n with
    | zero => intro v4 v6 ls hl h; cases (fX8_common_12_z  v4 v6).symm.trans h
    | succ n ih =>
    intro v4 v6 ls hl h
    have h := (fX8_common_12_s  n v4 v6).symm.trans h
    refine lv_lload hx hb dX8_common_12 (lv_at hl 1 rfl) ?_
    refine lv_lconst (v := 0) hx hb dX8_common_14 (by decide) ?_
    refine W.lcmp hx hb dX8_common_15 ?_
    refine lv_if_eq (tgt := 37) hx hb dX8_common_16 (by decide) (fun c1 => ?_) (fun c1 => ?_)
    · have h := itp c1 h
      refine lv_lload hx hb dX8_common_37 (lv_at hl 0 rfl) ?_
      exact hret _ _ _ dX8_common_39 (Option.some.inj h)
    · have h := itn c1 h
      refine lv_lload hx hb dX8_common_19 (lv_at hl 0 rfl) ?_
      refine lv_lload hx hb dX8_common_21 (lv_at hl 1 rfl) ?_
      obtain ⟨hz2, h⟩ := nz_out h
      refine xv_lrem hx hb dX8_common_23 hz2 ?_
      refine lv_lstore (lv' := [(8, .long (lrem v4 v6)), (4, .long v4), (6, .long v6)]) hx hb dX8_common_24 hl (by decide) rfl (fun ls hl => ?_)
      refine lv_lload hx hb dX8_common_26 (lv_at hl 2 rfl) ?_
      refine lv_lstore (lv' := [(4, .long v6), (8, .long (lrem v4 v6)), (6, .long v6)]) hx hb dX8_common_28 hl (by decide) rfl (fun ls hl => ?_)
      refine lv_lload hx hb dX8_common_30 (lv_at hl 1 rfl) ?_
      refine lv_lstore (lv' := [(6, .long (lrem v4 v6)), (4, .long v6), (8, .long (lrem v4 v6))]) hx hb dX8_common_32 hl (by decide) rfl (fun ls hl => ?_)
      refine lv_goto (tgt := 12) hx hb dX8_common_34 (by decide) ?_
      exact ih v6 (lrem v4 v6) _ (lv_sub hl [1, 0] rfl) h
  unfold fX8_common at h
  refine lv_lload_n hx hb dX8_common_0 rfl (lv_at hl 0 rfl) ?_
  refine xm_labs cx hl.1 lm_X8_3 ⟨ksJ9_abs_067f4, kmJ9_abs_067f4.2.1, kmJ9_abs_067f4.1⟩ (Nat.le_of_ble_eq_true rfl) (Nat.le_of_ble_eq_true rfl) (Nat.le_of_ble_eq_true rfl) (Nat.le_of_ble_eq_true rfl) dX8_common_1 ?_
  refine lv_lstore (lv' := [(4, .long (labs v0)), (0, .long v0), (2, .long v2)]) hx hb dX8_common_4 hl (by decide) rfl (fun ls hl => ?_)
  refine lv_lload_n hx hb dX8_common_6 rfl (lv_at hl 2 rfl) ?_
  refine xm_labs cx hl.1 lm_X8_3 ⟨ksJ9_abs_067f4, kmJ9_abs_067f4.2.1, kmJ9_abs_067f4.1⟩ (Nat.le_of_ble_eq_true rfl) (Nat.le_of_ble_eq_true rfl) (Nat.le_of_ble_eq_true rfl) (Nat.le_of_ble_eq_true rfl) dX8_common_7 ?_
  refine lv_lstore (lv' := [(6, .long (labs v2)), (4, .long (labs v0)), (0, .long v0), (2, .long v2)]) hx hb dX8_common_10 hl (by decide) rfl (fun ls hl => ?_)
  exact w12 FU (labs v0) (labs v2) _ (lv_sub hl [1, 0] rfl) h
-- X8_part
theorem dX8_part_0 : decode cX8_part 0 = .ok (.lload_n 0, 1) := by decide +kernel
theorem dX8_part_1 : decode cX8_part 1 = .ok (.lload_n 2, 1) := by decide +kernel
theorem dX8_part_2 : decode cX8_part 2 = .ok (.invokestatic 9, 3) := by decide +kernel
theorem dX8_part_5 : decode cX8_part 5 = .ok (.lload_n 2, 1) := by decide +kernel
theorem dX8_part_6 : decode cX8_part 6 = .ok (.lconst 0, 1) := by decide +kernel
theorem dX8_part_7 : decode cX8_part 7 = .ok (.lcmp, 1) := by decide +kernel
theorem dX8_part_8 : decode cX8_part 8 = .ok (.ifCond .ge 7, 3) := by decide +kernel
theorem dX8_part_11 : decode cX8_part 11 = .ok (.iconst (-1), 1) := by decide +kernel
theorem dX8_part_12 : decode cX8_part 12 = .ok (.goto 4, 3) := by decide +kernel
theorem dX8_part_15 : decode cX8_part 15 = .ok (.iconst 1, 1) := by decide +kernel
theorem dX8_part_16 : decode cX8_part 16 = .ok (.i2l, 1) := by decide +kernel
theorem dX8_part_17 : decode cX8_part 17 = .ok (.lmul, 1) := by decide +kernel
theorem dX8_part_18 : decode cX8_part 18 = .ok (.lstore 5, 2) := by decide +kernel
theorem dX8_part_20 : decode cX8_part 20 = .ok (.iload 4, 2) := by decide +kernel
theorem dX8_part_22 : decode cX8_part 22 = .ok (.ifCond .ne 7, 3) := by decide +kernel
theorem dX8_part_25 : decode cX8_part 25 = .ok (.lload_n 0, 1) := by decide +kernel
theorem dX8_part_26 : decode cX8_part 26 = .ok (.goto 4, 3) := by decide +kernel
theorem dX8_part_29 : decode cX8_part 29 = .ok (.lload_n 2, 1) := by decide +kernel
theorem dX8_part_30 : decode cX8_part 30 = .ok (.lload 5, 2) := by decide +kernel
theorem dX8_part_32 : decode cX8_part 32 = .ok (.ldiv, 1) := by decide +kernel
theorem dX8_part_33 : decode cX8_part 33 = .ok (.lreturn, 1) := by decide +kernel
noncomputable def fX8_part_16  (v0 : Int64) (v2 : Int64) (v4 : Int32) (z0 : Int64) (z1 : Int32) : Option (Int64) := (if v4 = 0 then nz (z0 * z1.toInt64) (some (v0 / (z0 * z1.toInt64))) else nz (z0 * z1.toInt64) (some (v2 / (z0 * z1.toInt64))))
noncomputable def fX8_part  (v0 : Int64) (v2 : Int64) (v4 : Int32) : Option (Int64) := (fX8_common v0 v2).bind fun r1 => (if 0 ≤ (lg_cmp v2 0) then fX8_part_16 v0 v2 v4 r1 1 else fX8_part_16 v0 v2 v4 r1 (-1))
set_option maxHeartbeats 4000000 in
set_option maxRecDepth 100000 in
theorem ctX8_part (l : Launch) (g : GT) (v0 : Int64) (v2 : Int64) (v4 : Int32) (o : Int64) (h : fX8_part v0 v2 v4 = some o) : Met l yX8_part (Cond.code yX8_part cX8_part 7 (some .long) :: Tw) ⟨2, 0, 0, 55⟩ (va_Pc [.long v0, .long v2, .int v4] (roB g [])) (vp_Sl (fun x => x = o)) 0 0 (fun _ => False) := by
  refine ro_metl (by decide) (Nat.le_of_ble_eq_true rfl) (lv0 := [(0, .long v0), (2, .long v2), (4, .int v4)]) rfl ?_
  intro p e s m args below meth c ls Q cx hret hG hP hl
  have hx := cx.1
  have hb := cx.2.1
  have hG0 := hG
  have w16 : ∀ (v0 : Int64) (v2 : Int64) (v4 : Int32) (z0 : Int64) (z1 : Int32) (ls : Array Slot), lv_has ls 7 [(0, .long v0), (2, .long v2), (4, .int v4)] → fX8_part_16  v0 v2 v4 z0 z1 = some o → W p l e ⟨2, 0, 0, 55⟩ s m args below meth c s.heap [] 0 0 Q (F0 m 16 ls [.int z1, .long z0]) := by
    intro v0 v2 v4 z0 z1 ls hl h
    unfold fX8_part_16 at h
    refine lv_i2l (v := z1.toInt64) hx hb dX8_part_16 rfl ?_
    refine lv_lmul hx hb dX8_part_17 ?_
    refine lv_lstore (lv' := [(5, .long (z0 * z1.toInt64)), (0, .long v0), (2, .long v2), (4, .int v4)]) hx hb dX8_part_18 hl (by decide) rfl (fun ls hl => ?_)
    refine lv_iload hx hb dX8_part_20 (lv_at hl 3 rfl) ?_
    refine lv_if_ne (tgt := 29) hx hb dX8_part_22 (by decide) (fun c4 => ?_) (fun c4 => ?_)
    · have h := itn c4 h
      refine lv_lload_n hx hb dX8_part_29 rfl (lv_at hl 2 rfl) ?_
      refine lv_lload hx hb dX8_part_30 (lv_at hl 0 rfl) ?_
      obtain ⟨hz5, h⟩ := nz_out h
      refine lv_ldiv hx hb dX8_part_32 hz5 ?_
      exact hret _ _ _ dX8_part_33 (Option.some.inj h)
    · have h := itp c4 h
      refine lv_lload_n hx hb dX8_part_25 rfl (lv_at hl 1 rfl) ?_
      refine lv_goto (tgt := 30) hx hb dX8_part_26 (by decide) ?_
      refine lv_lload hx hb dX8_part_30 (lv_at hl 0 rfl) ?_
      obtain ⟨hz6, h⟩ := nz_out h
      refine lv_ldiv hx hb dX8_part_32 hz6 ?_
      exact hret _ _ _ dX8_part_33 (Option.some.inj h)
  unfold fX8_part at h
  refine lv_lload_n hx hb dX8_part_0 rfl (lv_at hl 0 rfl) ?_
  refine lv_lload_n hx hb dX8_part_1 rfl (lv_at hl 1 rfl) ?_
  obtain ⟨r1, hr2, h⟩ := bnd h
  refine ro_l (runS (As := [.long v0, .long v2]) (rest := []) cx hl.1 (ctX8_common l g v0 v2 r1 hr2) kmX8_common ksX8_common lm_X8_9 ⟨rfl, rfl⟩ ⟨Nat.le_of_ble_eq_true rfl, Nat.le_of_ble_eq_true rfl⟩ (roS hG (hP.sub [] rfl)) rfl rfl (Nat.le_of_ble_eq_true rfl) dX8_part_2 ⟨Nat.le_of_ble_eq_true rfl, Nat.le_of_ble_eq_true rfl⟩) ?_
  refine lv_lload_n hx hb dX8_part_5 rfl (lv_at hl 1 rfl) ?_
  refine lv_lconst (v := 0) hx hb dX8_part_6 (by decide) ?_
  refine W.lcmp hx hb dX8_part_7 ?_
  refine lv_if_ge (tgt := 15) hx hb dX8_part_8 (by decide) (fun c3 => ?_) (fun c3 => ?_)
  · have h := itp c3 h
    refine lv_iconst (v := 1) hx hb dX8_part_15 (by decide) ?_
    exact w16 v0 v2 v4 r1 1 _ (lv_sub hl [0, 1, 2] rfl) h
  · have h := itn c3 h
    refine lv_iconst (v := -1) hx hb dX8_part_11 (by decide) ?_
    refine lv_goto (tgt := 16) hx hb dX8_part_12 (by decide) ?_
    exact w16 v0 v2 v4 r1 (-1) _ (lv_sub hl [0, 1, 2] rfl) h
-- X8_feed
theorem dX8_feed_0 : decode cX8_feed 0 = .ok (.aload_n 0, 1) := by decide +kernel
theorem dX8_feed_1 : decode cX8_feed 1 = .ok (.getfield 80, 3) := by decide +kernel
theorem dX8_feed_4 : decode cX8_feed 4 = .ok (.sipush 580, 3) := by decide +kernel
theorem dX8_feed_7 : decode cX8_feed 7 = .ok (.if_icmp .le 5, 3) := by decide +kernel
theorem dX8_feed_10 : decode cX8_feed 10 = .ok (.iconst (-1), 1) := by decide +kernel
theorem dX8_feed_11 : decode cX8_feed 11 = .ok (.ireturn, 1) := by decide +kernel
theorem dX8_feed_12 : decode cX8_feed 12 = .ok (.iconst 5, 1) := by decide +kernel
theorem dX8_feed_13 : decode cX8_feed 13 = .ok (.newarray .int, 2) := by decide +kernel
theorem dX8_feed_15 : decode cX8_feed 15 = .ok (.dup, 1) := by decide +kernel
theorem dX8_feed_16 : decode cX8_feed 16 = .ok (.iconst 0, 1) := by decide +kernel
theorem dX8_feed_17 : decode cX8_feed 17 = .ok (.iload_n 1, 1) := by decide +kernel
theorem dX8_feed_18 : decode cX8_feed 18 = .ok (.iastore, 1) := by decide +kernel
theorem dX8_feed_19 : decode cX8_feed 19 = .ok (.dup, 1) := by decide +kernel
theorem dX8_feed_20 : decode cX8_feed 20 = .ok (.iconst 1, 1) := by decide +kernel
theorem dX8_feed_21 : decode cX8_feed 21 = .ok (.iload_n 2, 1) := by decide +kernel
theorem dX8_feed_22 : decode cX8_feed 22 = .ok (.iastore, 1) := by decide +kernel
theorem dX8_feed_23 : decode cX8_feed 23 = .ok (.dup, 1) := by decide +kernel
theorem dX8_feed_24 : decode cX8_feed 24 = .ok (.iconst 2, 1) := by decide +kernel
theorem dX8_feed_25 : decode cX8_feed 25 = .ok (.iload_n 3, 1) := by decide +kernel
theorem dX8_feed_26 : decode cX8_feed 26 = .ok (.iastore, 1) := by decide +kernel
theorem dX8_feed_27 : decode cX8_feed 27 = .ok (.dup, 1) := by decide +kernel
theorem dX8_feed_28 : decode cX8_feed 28 = .ok (.iconst 3, 1) := by decide +kernel
theorem dX8_feed_29 : decode cX8_feed 29 = .ok (.iload 4, 2) := by decide +kernel
theorem dX8_feed_31 : decode cX8_feed 31 = .ok (.iastore, 1) := by decide +kernel
theorem dX8_feed_32 : decode cX8_feed 32 = .ok (.dup, 1) := by decide +kernel
theorem dX8_feed_33 : decode cX8_feed 33 = .ok (.iconst 4, 1) := by decide +kernel
theorem dX8_feed_34 : decode cX8_feed 34 = .ok (.iload 5, 2) := by decide +kernel
theorem dX8_feed_36 : decode cX8_feed 36 = .ok (.iastore, 1) := by decide +kernel
theorem dX8_feed_37 : decode cX8_feed 37 = .ok (.astore 6, 2) := by decide +kernel
theorem dX8_feed_39 : decode cX8_feed 39 = .ok (.iconst 0, 1) := by decide +kernel
theorem dX8_feed_40 : decode cX8_feed 40 = .ok (.istore 7, 2) := by decide +kernel
theorem dX8_feed_42 : decode cX8_feed 42 = .ok (.iload 7, 2) := by decide +kernel
theorem dX8_feed_44 : decode cX8_feed 44 = .ok (.bipush 20, 2) := by decide +kernel
theorem dX8_feed_46 : decode cX8_feed 46 = .ok (.if_icmp .ge 43, 3) := by decide +kernel
theorem dX8_feed_49 : decode cX8_feed 49 = .ok (.aload_n 0, 1) := by decide +kernel
theorem dX8_feed_50 : decode cX8_feed 50 = .ok (.getfield 44, 3) := by decide +kernel
theorem dX8_feed_53 : decode cX8_feed 53 = .ok (.aload_n 0, 1) := by decide +kernel
theorem dX8_feed_54 : decode cX8_feed 54 = .ok (.getfield 80, 3) := by decide +kernel
theorem dX8_feed_57 : decode cX8_feed 57 = .ok (.iload 7, 2) := by decide +kernel
theorem dX8_feed_59 : decode cX8_feed 59 = .ok (.iadd, 1) := by decide +kernel
theorem dX8_feed_60 : decode cX8_feed 60 = .ok (.aload 6, 2) := by decide +kernel
theorem dX8_feed_62 : decode cX8_feed 62 = .ok (.iload 7, 2) := by decide +kernel
theorem dX8_feed_64 : decode cX8_feed 64 = .ok (.iconst 4, 1) := by decide +kernel
theorem dX8_feed_65 : decode cX8_feed 65 = .ok (.idiv, 1) := by decide +kernel
theorem dX8_feed_66 : decode cX8_feed 66 = .ok (.iaload, 1) := by decide +kernel
theorem dX8_feed_67 : decode cX8_feed 67 = .ok (.bipush 24, 2) := by decide +kernel
theorem dX8_feed_69 : decode cX8_feed 69 = .ok (.bipush 8, 2) := by decide +kernel
theorem dX8_feed_71 : decode cX8_feed 71 = .ok (.iload 7, 2) := by decide +kernel
theorem dX8_feed_73 : decode cX8_feed 73 = .ok (.iconst 4, 1) := by decide +kernel
theorem dX8_feed_74 : decode cX8_feed 74 = .ok (.irem, 1) := by decide +kernel
theorem dX8_feed_75 : decode cX8_feed 75 = .ok (.imul, 1) := by decide +kernel
theorem dX8_feed_76 : decode cX8_feed 76 = .ok (.isub, 1) := by decide +kernel
theorem dX8_feed_77 : decode cX8_feed 77 = .ok (.iushr, 1) := by decide +kernel
theorem dX8_feed_78 : decode cX8_feed 78 = .ok (.sipush 255, 3) := by decide +kernel
theorem dX8_feed_81 : decode cX8_feed 81 = .ok (.iand, 1) := by decide +kernel
theorem dX8_feed_82 : decode cX8_feed 82 = .ok (.iastore, 1) := by decide +kernel
theorem dX8_feed_83 : decode cX8_feed 83 = .ok (.iinc 7 1, 3) := by decide +kernel
theorem dX8_feed_86 : decode cX8_feed 86 = .ok (.goto (-44), 3) := by decide +kernel
theorem dX8_feed_89 : decode cX8_feed 89 = .ok (.aload_n 0, 1) := by decide +kernel
theorem dX8_feed_90 : decode cX8_feed 90 = .ok (.dup, 1) := by decide +kernel
theorem dX8_feed_91 : decode cX8_feed 91 = .ok (.getfield 80, 3) := by decide +kernel
theorem dX8_feed_94 : decode cX8_feed 94 = .ok (.bipush 20, 2) := by decide +kernel
theorem dX8_feed_96 : decode cX8_feed 96 = .ok (.iadd, 1) := by decide +kernel
theorem dX8_feed_97 : decode cX8_feed 97 = .ok (.putfield 80, 3) := by decide +kernel
theorem dX8_feed_100 : decode cX8_feed 100 = .ok (.aload_n 0, 1) := by decide +kernel
theorem dX8_feed_101 : decode cX8_feed 101 = .ok (.getfield 80, 3) := by decide +kernel
theorem dX8_feed_104 : decode cX8_feed 104 = .ok (.ireturn, 1) := by decide +kernel
noncomputable def fX8_feed_42  : Nat → (Nat → Int32) → Int32 → (Nat → Int32) → Int32 → Option (Int32 × (Nat → Int32) × Int32)
  | 0, _, _, _, _ => none
  | n + 1, t_tape, t_taped, n13, v7 => (if 20 ≤ v7 then some ((t_taped + 20), t_tape, t_taped + 20) else chk 5 (v7 / 4) (chk 600 (t_taped + v7) (fX8_feed_42 n (upd t_tape ((t_taped + v7).toNatClampNeg) ((iushr (n13 (v7 / 4).toNatClampNeg) (24 - (8 * (irem v7 4)))) &&& 255)) t_taped n13 (v7 + 1))))
theorem fX8_feed_42_z  (t_tape : Nat → Int32) (t_taped : Int32) (n13 : Nat → Int32) (v7 : Int32) : fX8_feed_42  0 t_tape t_taped n13 v7 = none := rfl
theorem fX8_feed_42_s  (n : Nat) (t_tape : Nat → Int32) (t_taped : Int32) (n13 : Nat → Int32) (v7 : Int32) : fX8_feed_42  (n + 1) t_tape t_taped n13 v7 = (if 20 ≤ v7 then some ((t_taped + 20), t_tape, t_taped + 20) else chk 5 (v7 / 4) (chk 600 (t_taped + v7) (fX8_feed_42 n (upd t_tape ((t_taped + v7).toNatClampNeg) ((iushr (n13 (v7 / 4).toNatClampNeg) (24 - (8 * (irem v7 4)))) &&& 255)) t_taped n13 (v7 + 1)))) := rfl
noncomputable def fX8_feed  (t_tape : Nat → Int32) (t_taped : Int32) (v1 : Int32) (v2 : Int32) (v3 : Int32) (v4 : Int32) (v5 : Int32) : Option (Int32 × (Nat → Int32) × Int32) := (if t_taped ≤ 580 then chk 5 0 (chk 5 1 (chk 5 2 (chk 5 3 (chk 5 4 (fX8_feed_42 FU t_tape t_taped (upd (upd (upd (upd (upd (fun _ => 0) ((0 : Int32).toNatClampNeg) v1) ((1 : Int32).toNatClampNeg) v2) ((2 : Int32).toNatClampNeg) v3) ((3 : Int32).toNatClampNeg) v4) ((4 : Int32).toNatClampNeg) v5) 0))))) else some ((-1), t_tape, t_taped))
set_option maxHeartbeats 4000000 in
set_option maxRecDepth 100000 in
theorem ctX8_feed (l : Launch) (g : GT) (sz : Nat) (a_t : Nat → Nat) (t_acted : Int32) (t_taped : Int32) (t_faultKind : Int32) (t_faultPlace : Int32) (t_at : Int32) (t_begin : Int32) (t_token : Int32) (t_value : Int32) (t_bad : Int32) (t_wide : Int32) (t_lost : Int32) (t_det : Int64) (t_mask : Int32) (t_mode : Int32) (t_wanted : Int32) (t_orders : Int32) (t_foundAt : Int32) (t_foundBy : Int64) (t_unlikes : Int32) (t_tape : Nat → Int32) (v1 : Int32) (v2 : Int32) (v3 : Int32) (v4 : Int32) (v5 : Int32) (o : Int32) (o_t_tape : Nat → Int32) (o_t_taped : Int32) (h : fX8_feed t_tape t_taped v1 v2 v3 v4 v5 = some (o, o_t_tape, o_t_taped)) : Met l yX8_feed (Cond.code yX8_feed cX8_feed 8 (some .int) :: Tw) ⟨0, 1, 5, 0⟩ (va_Pc [.ref ((a_t 0)), .int v1, .int v2, .int v3, .int v4, .int v5] (rwB g [((a_t 0), .inr (7, [.ref (a_t 1), .ref (a_t 2), .int t_acted, .ref (a_t 4), .ref (a_t 5), .ref (a_t 6), .ref (a_t 7), .ref (a_t 8), .ref (a_t 9), .int t_taped, .int t_faultKind, .int t_faultPlace, .int t_at, .int t_begin, .int t_token, .int t_value, .int t_bad, .ref (a_t 18), .ref (a_t 19), .ref (a_t 20), .int t_wide, .int t_lost, .ref (a_t 23), .long t_det, .ref (a_t 25), .int t_mask, .int t_mode, .int t_wanted, .int t_orders, .int t_foundAt, .long t_foundBy, .ref (a_t 32), .ref (a_t 33), .int t_unlikes, .ref (a_t 35), .ref (a_t 36)])), ((a_t 9), .inl (g.2.2.1 0, 600, .inl t_tape))] sz)) (va_Qi (fun x (_ : Nat → Nat) => x = o) (fun u => rwE g (va_A [((a_t 0), .inr (7, [.ref (a_t 1), .ref (a_t 2), .int t_acted, .ref (a_t 4), .ref (a_t 5), .ref (a_t 6), .ref (a_t 7), .ref (a_t 8), .ref (a_t 9), .int t_taped, .int t_faultKind, .int t_faultPlace, .int t_at, .int t_begin, .int t_token, .int t_value, .int t_bad, .ref (a_t 18), .ref (a_t 19), .ref (a_t 20), .int t_wide, .int t_lost, .ref (a_t 23), .long t_det, .ref (a_t 25), .int t_mask, .int t_mode, .int t_wanted, .int t_orders, .int t_foundAt, .long t_foundBy, .ref (a_t 32), .ref (a_t 33), .int t_unlikes, .ref (a_t 35), .ref (a_t 36)])), ((a_t 9), .inl (g.2.2.1 0, 600, .inl t_tape))] sz) [((a_t 0), .inr (7, [.ref (a_t 1), .ref (a_t 2), .int t_acted, .ref (a_t 4), .ref (a_t 5), .ref (a_t 6), .ref (a_t 7), .ref (a_t 8), .ref (a_t 9), .int o_t_taped, .int t_faultKind, .int t_faultPlace, .int t_at, .int t_begin, .int t_token, .int t_value, .int t_bad, .ref (a_t 18), .ref (a_t 19), .ref (a_t 20), .int t_wide, .int t_lost, .ref (a_t 23), .long t_det, .ref (a_t 25), .int t_mask, .int t_mode, .int t_wanted, .int t_orders, .int t_foundAt, .long t_foundBy, .ref (a_t 32), .ref (a_t 33), .int t_unlikes, .ref (a_t 35), .ref (a_t 36)])), ((a_t 9), .inl (g.2.2.1 0, 600, .inl o_t_tape))]) (va_A [((a_t 0), .inr (7, [.ref (a_t 1), .ref (a_t 2), .int t_acted, .ref (a_t 4), .ref (a_t 5), .ref (a_t 6), .ref (a_t 7), .ref (a_t 8), .ref (a_t 9), .int t_taped, .int t_faultKind, .int t_faultPlace, .int t_at, .int t_begin, .int t_token, .int t_value, .int t_bad, .ref (a_t 18), .ref (a_t 19), .ref (a_t 20), .int t_wide, .int t_lost, .ref (a_t 23), .long t_det, .ref (a_t 25), .int t_mask, .int t_mode, .int t_wanted, .int t_orders, .int t_foundAt, .long t_foundBy, .ref (a_t 32), .ref (a_t 33), .int t_unlikes, .ref (a_t 35), .ref (a_t 36)])), ((a_t 9), .inl (g.2.2.1 0, 600, .inl t_tape))] sz)) 1 5 (va_A [((a_t 0), .inr (7, [.ref (a_t 1), .ref (a_t 2), .int t_acted, .ref (a_t 4), .ref (a_t 5), .ref (a_t 6), .ref (a_t 7), .ref (a_t 8), .ref (a_t 9), .int t_taped, .int t_faultKind, .int t_faultPlace, .int t_at, .int t_begin, .int t_token, .int t_value, .int t_bad, .ref (a_t 18), .ref (a_t 19), .ref (a_t 20), .int t_wide, .int t_lost, .ref (a_t 23), .long t_det, .ref (a_t 25), .int t_mask, .int t_mode, .int t_wanted, .int t_orders, .int t_foundAt, .long t_foundBy, .ref (a_t 32), .ref (a_t 33), .int t_unlikes, .ref (a_t 35), .ref (a_t 36)])), ((a_t 9), .inl (g.2.2.1 0, 600, .inl t_tape))] sz) := by
  refine rw_meti (by decide) (Nat.le_of_ble_eq_true rfl) (lv0 := [(0, .ref ((a_t 0))), (1, .int v1), (2, .int v2), (3, .int v3), (4, .int v4), (5, .int v5)]) rfl ?_
  intro p e s m args below meth c ls Q A cx hret hG hAb hb0 hA hP hD hl
  have hx := cx.1
  have hb := cx.2.1
  have hG0 := hG
  have hGk : ∀ {H : Heap} {locs : List Loc}, va_S A s.heap H locs → GE g s H := fun hS => hG0.keptS hAb hS
  have hSb : ∀ {H : Heap} {locs : List Loc}, va_S A s.heap H locs → va_S (fun a => g.1 ≤ a) s.heap H locs := fun hS => ⟨hS.1, fun q h1 h2 => hS.2.1 q h1 (fun z => h2 (hAb q z)), fun l hl => hAb _ (hS.2.2 l hl)⟩
  have hS : va_S A s.heap s.heap [] := va_S.rf
  have hrt : ∀ (u : Nat → Nat) (pc : Nat) (ls : Array Slot) (v : Int32) (x_t_tape : Nat → Int32) (x_t_taped : Int32) (H : Heap) (locs : List Loc), decode cX8_feed pc = .ok (.ireturn, 1) → some (v, x_t_tape, x_t_taped) = some (o, o_t_tape, o_t_taped) → va_P g.2.1 vwCl [((a_t 0), .inr (7, [.ref (a_t 1), .ref (a_t 2), .int t_acted, .ref (a_t 4), .ref (a_t 5), .ref (a_t 6), .ref (a_t 7), .ref (a_t 8), .ref (a_t 9), .int x_t_taped, .int t_faultKind, .int t_faultPlace, .int t_at, .int t_begin, .int t_token, .int t_value, .int t_bad, .ref (a_t 18), .ref (a_t 19), .ref (a_t 20), .int t_wide, .int t_lost, .ref (a_t 23), .long t_det, .ref (a_t 25), .int t_mask, .int t_mode, .int t_wanted, .int t_orders, .int t_foundAt, .long t_foundBy, .ref (a_t 32), .ref (a_t 33), .int t_unlikes, .ref (a_t 35), .ref (a_t 36)])), ((a_t 9), .inl (g.2.2.1 0, 600, .inl x_t_tape))] H → va_D A [((a_t 0), .inr (7, [.ref (a_t 1), .ref (a_t 2), .int t_acted, .ref (a_t 4), .ref (a_t 5), .ref (a_t 6), .ref (a_t 7), .ref (a_t 8), .ref (a_t 9), .int x_t_taped, .int t_faultKind, .int t_faultPlace, .int t_at, .int t_begin, .int t_token, .int t_value, .int t_bad, .ref (a_t 18), .ref (a_t 19), .ref (a_t 20), .int t_wide, .int t_lost, .ref (a_t 23), .long t_det, .ref (a_t 25), .int t_mask, .int t_mode, .int t_wanted, .int t_orders, .int t_foundAt, .long t_foundBy, .ref (a_t 32), .ref (a_t 33), .int t_unlikes, .ref (a_t 35), .ref (a_t 36)])), ((a_t 9), .inl (g.2.2.1 0, 600, .inl x_t_tape))] → va_S A s.heap H locs → W p l e ⟨0, 1, 5, 0⟩ s m args below meth c H locs 1 5 Q (F0 m pc ls [.int v]) := by
    intro u pc ls v x_t_tape x_t_taped H locs hd h hP hD hS
    cases h
    exact hret u _ _ _ _ _ hd rfl hP hD hS
  have w42 : ∀ (n : Nat) (t_tape : Nat → Int32) (t_taped : Int32) (q_n13 : Nat) (n13 : Nat → Int32) (v7 : Int32) (H : Heap) (locs : List Loc), va_P g.2.1 vwCl [((a_t 0), .inr (7, [.ref (a_t 1), .ref (a_t 2), .int t_acted, .ref (a_t 4), .ref (a_t 5), .ref (a_t 6), .ref (a_t 7), .ref (a_t 8), .ref (a_t 9), .int t_taped, .int t_faultKind, .int t_faultPlace, .int t_at, .int t_begin, .int t_token, .int t_value, .int t_bad, .ref (a_t 18), .ref (a_t 19), .ref (a_t 20), .int t_wide, .int t_lost, .ref (a_t 23), .long t_det, .ref (a_t 25), .int t_mask, .int t_mode, .int t_wanted, .int t_orders, .int t_foundAt, .long t_foundBy, .ref (a_t 32), .ref (a_t 33), .int t_unlikes, .ref (a_t 35), .ref (a_t 36)])), ((a_t 9), .inl (g.2.2.1 0, 600, .inl t_tape)), (q_n13, .inl (g.2.2.1 0, 5, .inl n13))] H → va_D A [((a_t 0), .inr (7, [.ref (a_t 1), .ref (a_t 2), .int t_acted, .ref (a_t 4), .ref (a_t 5), .ref (a_t 6), .ref (a_t 7), .ref (a_t 8), .ref (a_t 9), .int t_taped, .int t_faultKind, .int t_faultPlace, .int t_at, .int t_begin, .int t_token, .int t_value, .int t_bad, .ref (a_t 18), .ref (a_t 19), .ref (a_t 20), .int t_wide, .int t_lost, .ref (a_t 23), .long t_det, .ref (a_t 25), .int t_mask, .int t_mode, .int t_wanted, .int t_orders, .int t_foundAt, .long t_foundBy, .ref (a_t 32), .ref (a_t 33), .int t_unlikes, .ref (a_t 35), .ref (a_t 36)])), ((a_t 9), .inl (g.2.2.1 0, 600, .inl t_tape)), (q_n13, .inl (g.2.2.1 0, 5, .inl n13))] → va_S A s.heap H locs → ∀ (ls : Array Slot), lv_has ls 8 [(0, .ref ((a_t 0))), (6, .ref q_n13), (7, .int v7)] → fX8_feed_42  n t_tape t_taped n13 v7 = some (o, o_t_tape, o_t_taped) → W p l e ⟨0, 1, 5, 0⟩ s m args below meth c H locs 1 5 Q (F0 m 42 ls []) := by
    intro n
    induction n with
    | zero => intro t_tape t_taped q_n13 n13 v7 H locs hP hD hS ls hl h; cases (fX8_feed_42_z  t_tape t_taped n13 v7).symm.trans h
    | succ n ih =>
    intro t_tape t_taped q_n13 n13 v7 H locs hP hD hS ls hl h
    have h := (fX8_feed_42_s  n t_tape t_taped n13 v7).symm.trans h
    have hG := hGk hS
    refine lv_iload hx hb dX8_feed_42 (lv_at hl 2 rfl) ?_
    refine lv_bipush (v := 20) hx hb dX8_feed_44 (by decide) ?_
    refine lv_icmp_ge (tgt := 89) hx hb dX8_feed_46 (by decide) (fun c7 => ?_) (fun c7 => ?_)
    · have h := itp c7 h
      refine lv_aload_n hx hb dX8_feed_89 rfl (lv_at hl 0 rfl) ?_
      refine lv_dup hx hb dX8_feed_90 rfl ?_
      refine xa_get (C := RX8) (T := TX8) (N := 36) cx hG hP 0 rfl rfl uX8 9 (by decide) lf_X8_80 rfl dX8_feed_91 ?_
      refine lv_bipush (v := 20) hx hb dX8_feed_94 (by decide) ?_
      refine lv_iadd hx hb dX8_feed_96 ?_
      refine xw_put (C := RX8) (T := TX8) (N := 36) (ty := .int) (v := .int (t_taped + 20)) (ws' := [((a_t 0), .inr (7, [.ref (a_t 1), .ref (a_t 2), .int t_acted, .ref (a_t 4), .ref (a_t 5), .ref (a_t 6), .ref (a_t 7), .ref (a_t 8), .ref (a_t 9), .int (t_taped + 20), .int t_faultKind, .int t_faultPlace, .int t_at, .int t_begin, .int t_token, .int t_value, .int t_bad, .ref (a_t 18), .ref (a_t 19), .ref (a_t 20), .int t_wide, .int t_lost, .ref (a_t 23), .long t_det, .ref (a_t 25), .int t_mask, .int t_mode, .int t_wanted, .int t_orders, .int t_foundAt, .long t_foundBy, .ref (a_t 32), .ref (a_t 33), .int t_unlikes, .ref (a_t 35), .ref (a_t 36)])), ((a_t 9), .inl (g.2.2.1 0, 600, .inl t_tape)), (q_n13, .inl (g.2.2.1 0, 5, .inl n13))]) cx hG hP hD hS 0 rfl rfl uX8 tyX8 tyX8_ok nmX8 9 (by decide) lf_X8_80 rfl (by decide +kernel) rfl rfl (Nat.le_of_ble_eq_true rfl) rfl dX8_feed_97 (fun H locs hP hD hS => ?_)
      have hG := hGk hS
      refine lv_aload_n hx hb dX8_feed_100 rfl (lv_at hl 0 rfl) ?_
      refine xa_get (C := RX8) (T := TX8) (N := 36) cx hG hP 0 rfl rfl uX8 9 (by decide) lf_X8_80 rfl dX8_feed_101 ?_
      exact hrt (fun _ => 0) _ _ ((t_taped + 20)) t_tape (t_taped + 20) _ _ dX8_feed_104 h (hP.sub [0, 1] rfl) (hD.sub [0, 1] (by decide) rfl) hS
    · have h := itn c7 h
      refine lv_aload_n hx hb dX8_feed_49 rfl (lv_at hl 0 rfl) ?_
      refine xa_get (C := RX8) (T := TX8) (N := 36) cx hG hP 0 rfl rfl uX8 8 (by decide) lf_X8_44 rfl dX8_feed_50 ?_
      refine lv_aload_n hx hb dX8_feed_53 rfl (lv_at hl 0 rfl) ?_
      refine xa_get (C := RX8) (T := TX8) (N := 36) cx hG hP 0 rfl rfl uX8 9 (by decide) lf_X8_80 rfl dX8_feed_54 ?_
      refine lv_iload hx hb dX8_feed_57 (lv_at hl 2 rfl) ?_
      refine lv_iadd hx hb dX8_feed_59 ?_
      refine lv_aload hx hb dX8_feed_60 (lv_at hl 1 rfl) ?_
      refine lv_iload hx hb dX8_feed_62 (lv_at hl 2 rfl) ?_
      refine lv_iconst (v := 4) hx hb dX8_feed_64 (by decide) ?_
      refine lv_idiv hx hb dX8_feed_65 (by decide) ?_
      obtain ⟨hi8, h⟩ := chk_out h
      refine xa_iald cx hG hP 2 rfl hi8 rfl dX8_feed_66 ?_
      refine lv_bipush (v := 24) hx hb dX8_feed_67 (by decide) ?_
      refine lv_bipush (v := 8) hx hb dX8_feed_69 (by decide) ?_
      refine lv_iload hx hb dX8_feed_71 (lv_at hl 2 rfl) ?_
      refine lv_iconst (v := 4) hx hb dX8_feed_73 (by decide) ?_
      refine xv_irem hx hb dX8_feed_74 (by decide) ?_
      refine lv_imul hx hb dX8_feed_75 ?_
      refine lv_isub hx hb dX8_feed_76 ?_
      refine lv_iushr (v := iushr (n13 (v7 / 4).toNatClampNeg) (24 - (8 * (irem v7 4)))) hx hb dX8_feed_77 rfl ?_
      refine lv_sipush (v := 255) hx hb dX8_feed_78 (by decide) ?_
      refine lv_iand hx hb dX8_feed_81 ?_
      obtain ⟨hi9, h⟩ := chk_out h
      refine xw_iast (ws' := [((a_t 0), .inr (7, [.ref (a_t 1), .ref (a_t 2), .int t_acted, .ref (a_t 4), .ref (a_t 5), .ref (a_t 6), .ref (a_t 7), .ref (a_t 8), .ref (a_t 9), .int t_taped, .int t_faultKind, .int t_faultPlace, .int t_at, .int t_begin, .int t_token, .int t_value, .int t_bad, .ref (a_t 18), .ref (a_t 19), .ref (a_t 20), .int t_wide, .int t_lost, .ref (a_t 23), .long t_det, .ref (a_t 25), .int t_mask, .int t_mode, .int t_wanted, .int t_orders, .int t_foundAt, .long t_foundBy, .ref (a_t 32), .ref (a_t 33), .int t_unlikes, .ref (a_t 35), .ref (a_t 36)])), ((a_t 9), .inl (g.2.2.1 0, 600, .inl (upd t_tape ((t_taped + v7).toNatClampNeg) ((iushr (n13 (v7 / 4).toNatClampNeg) (24 - (8 * (irem v7 4)))) &&& 255)))), (q_n13, .inl (g.2.2.1 0, 5, .inl n13))]) (k := ((t_taped + v7).toNatClampNeg)) cx hG hP hD hS 1 rfl hi9 rfl rfl dX8_feed_82 (fun H locs hP hD hS => ?_)
      have hG := hGk hS
      refine lv_iinc (v := v7 + 1) (lv' := [(7, .int (v7 + 1)), (0, .ref ((a_t 0))), (6, .ref q_n13)]) hx hb dX8_feed_83 hl (k := 2) rfl rfl (by decide) rfl (fun ls hl => ?_)
      refine lv_goto (tgt := 42) hx hb dX8_feed_86 (by decide) ?_
      exact ih (upd t_tape ((t_taped + v7).toNatClampNeg) ((iushr (n13 (v7 / 4).toNatClampNeg) (24 - (8 * (irem v7 4)))) &&& 255)) t_taped q_n13 n13 (v7 + 1) _ _ hP hD hS _ (lv_sub hl [1, 2, 0] rfl) h
  unfold fX8_feed at h
  refine lv_aload_n hx hb dX8_feed_0 rfl (lv_at hl 0 rfl) ?_
  refine xa_get (C := RX8) (T := TX8) (N := 36) cx hG hP 0 rfl rfl uX8 9 (by decide) lf_X8_80 rfl dX8_feed_1 ?_
  refine lv_sipush (v := 580) hx hb dX8_feed_4 (by decide) ?_
  refine lv_icmp_le (tgt := 12) hx hb dX8_feed_7 (by decide) (fun c1 => ?_) (fun c1 => ?_)
  · have h := itp c1 h
    refine lv_iconst (v := 5) hx hb dX8_feed_12 (by decide) ?_
    refine xw_newi (N' := 5) cx hG hP hD hS hA arI (by decide) (by decide) (Nat.le_of_ble_eq_true rfl) (Nat.le_of_ble_eq_true rfl) (Nat.le_of_ble_eq_true rfl) dX8_feed_13 (fun q_n13 H hP hD hS => ?_)
    have hP : va_P g.2.1 vwCl [((a_t 0), .inr (7, [.ref (a_t 1), .ref (a_t 2), .int t_acted, .ref (a_t 4), .ref (a_t 5), .ref (a_t 6), .ref (a_t 7), .ref (a_t 8), .ref (a_t 9), .int t_taped, .int t_faultKind, .int t_faultPlace, .int t_at, .int t_begin, .int t_token, .int t_value, .int t_bad, .ref (a_t 18), .ref (a_t 19), .ref (a_t 20), .int t_wide, .int t_lost, .ref (a_t 23), .long t_det, .ref (a_t 25), .int t_mask, .int t_mode, .int t_wanted, .int t_orders, .int t_foundAt, .long t_foundBy, .ref (a_t 32), .ref (a_t 33), .int t_unlikes, .ref (a_t 35), .ref (a_t 36)])), ((a_t 9), .inl (g.2.2.1 0, 600, .inl t_tape)), (q_n13, .inl (g.2.2.1 0, 5, .inl (fun _ => 0)))] H := hP
    have hD : va_D A [((a_t 0), .inr (7, [.ref (a_t 1), .ref (a_t 2), .int t_acted, .ref (a_t 4), .ref (a_t 5), .ref (a_t 6), .ref (a_t 7), .ref (a_t 8), .ref (a_t 9), .int t_taped, .int t_faultKind, .int t_faultPlace, .int t_at, .int t_begin, .int t_token, .int t_value, .int t_bad, .ref (a_t 18), .ref (a_t 19), .ref (a_t 20), .int t_wide, .int t_lost, .ref (a_t 23), .long t_det, .ref (a_t 25), .int t_mask, .int t_mode, .int t_wanted, .int t_orders, .int t_foundAt, .long t_foundBy, .ref (a_t 32), .ref (a_t 33), .int t_unlikes, .ref (a_t 35), .ref (a_t 36)])), ((a_t 9), .inl (g.2.2.1 0, 600, .inl t_tape)), (q_n13, .inl (g.2.2.1 0, 5, .inl (fun _ => 0)))] := hD
    have hG := hGk hS
    refine lv_dup hx hb dX8_feed_15 rfl ?_
    refine lv_iconst (v := 0) hx hb dX8_feed_16 (by decide) ?_
    refine lv_iload_n hx hb dX8_feed_17 rfl (lv_at hl 1 rfl) ?_
    obtain ⟨hi2, h⟩ := chk_out h
    refine xw_iast (ws' := [((a_t 0), .inr (7, [.ref (a_t 1), .ref (a_t 2), .int t_acted, .ref (a_t 4), .ref (a_t 5), .ref (a_t 6), .ref (a_t 7), .ref (a_t 8), .ref (a_t 9), .int t_taped, .int t_faultKind, .int t_faultPlace, .int t_at, .int t_begin, .int t_token, .int t_value, .int t_bad, .ref (a_t 18), .ref (a_t 19), .ref (a_t 20), .int t_wide, .int t_lost, .ref (a_t 23), .long t_det, .ref (a_t 25), .int t_mask, .int t_mode, .int t_wanted, .int t_orders, .int t_foundAt, .long t_foundBy, .ref (a_t 32), .ref (a_t 33), .int t_unlikes, .ref (a_t 35), .ref (a_t 36)])), ((a_t 9), .inl (g.2.2.1 0, 600, .inl t_tape)), (q_n13, .inl (g.2.2.1 0, 5, .inl (upd (fun _ => 0) ((0 : Int32).toNatClampNeg) v1)))]) (k := ((0 : Int32).toNatClampNeg)) cx hG hP hD hS 2 rfl hi2 rfl rfl dX8_feed_18 (fun H locs hP hD hS => ?_)
    have hG := hGk hS
    refine lv_dup hx hb dX8_feed_19 rfl ?_
    refine lv_iconst (v := 1) hx hb dX8_feed_20 (by decide) ?_
    refine lv_iload_n hx hb dX8_feed_21 rfl (lv_at hl 2 rfl) ?_
    obtain ⟨hi3, h⟩ := chk_out h
    refine xw_iast (ws' := [((a_t 0), .inr (7, [.ref (a_t 1), .ref (a_t 2), .int t_acted, .ref (a_t 4), .ref (a_t 5), .ref (a_t 6), .ref (a_t 7), .ref (a_t 8), .ref (a_t 9), .int t_taped, .int t_faultKind, .int t_faultPlace, .int t_at, .int t_begin, .int t_token, .int t_value, .int t_bad, .ref (a_t 18), .ref (a_t 19), .ref (a_t 20), .int t_wide, .int t_lost, .ref (a_t 23), .long t_det, .ref (a_t 25), .int t_mask, .int t_mode, .int t_wanted, .int t_orders, .int t_foundAt, .long t_foundBy, .ref (a_t 32), .ref (a_t 33), .int t_unlikes, .ref (a_t 35), .ref (a_t 36)])), ((a_t 9), .inl (g.2.2.1 0, 600, .inl t_tape)), (q_n13, .inl (g.2.2.1 0, 5, .inl (upd (upd (fun _ => 0) ((0 : Int32).toNatClampNeg) v1) ((1 : Int32).toNatClampNeg) v2)))]) (k := ((1 : Int32).toNatClampNeg)) cx hG hP hD hS 2 rfl hi3 rfl rfl dX8_feed_22 (fun H locs hP hD hS => ?_)
    have hG := hGk hS
    refine lv_dup hx hb dX8_feed_23 rfl ?_
    refine lv_iconst (v := 2) hx hb dX8_feed_24 (by decide) ?_
    refine lv_iload_n hx hb dX8_feed_25 rfl (lv_at hl 3 rfl) ?_
    obtain ⟨hi4, h⟩ := chk_out h
    refine xw_iast (ws' := [((a_t 0), .inr (7, [.ref (a_t 1), .ref (a_t 2), .int t_acted, .ref (a_t 4), .ref (a_t 5), .ref (a_t 6), .ref (a_t 7), .ref (a_t 8), .ref (a_t 9), .int t_taped, .int t_faultKind, .int t_faultPlace, .int t_at, .int t_begin, .int t_token, .int t_value, .int t_bad, .ref (a_t 18), .ref (a_t 19), .ref (a_t 20), .int t_wide, .int t_lost, .ref (a_t 23), .long t_det, .ref (a_t 25), .int t_mask, .int t_mode, .int t_wanted, .int t_orders, .int t_foundAt, .long t_foundBy, .ref (a_t 32), .ref (a_t 33), .int t_unlikes, .ref (a_t 35), .ref (a_t 36)])), ((a_t 9), .inl (g.2.2.1 0, 600, .inl t_tape)), (q_n13, .inl (g.2.2.1 0, 5, .inl (upd (upd (upd (fun _ => 0) ((0 : Int32).toNatClampNeg) v1) ((1 : Int32).toNatClampNeg) v2) ((2 : Int32).toNatClampNeg) v3)))]) (k := ((2 : Int32).toNatClampNeg)) cx hG hP hD hS 2 rfl hi4 rfl rfl dX8_feed_26 (fun H locs hP hD hS => ?_)
    have hG := hGk hS
    refine lv_dup hx hb dX8_feed_27 rfl ?_
    refine lv_iconst (v := 3) hx hb dX8_feed_28 (by decide) ?_
    refine lv_iload hx hb dX8_feed_29 (lv_at hl 4 rfl) ?_
    obtain ⟨hi5, h⟩ := chk_out h
    refine xw_iast (ws' := [((a_t 0), .inr (7, [.ref (a_t 1), .ref (a_t 2), .int t_acted, .ref (a_t 4), .ref (a_t 5), .ref (a_t 6), .ref (a_t 7), .ref (a_t 8), .ref (a_t 9), .int t_taped, .int t_faultKind, .int t_faultPlace, .int t_at, .int t_begin, .int t_token, .int t_value, .int t_bad, .ref (a_t 18), .ref (a_t 19), .ref (a_t 20), .int t_wide, .int t_lost, .ref (a_t 23), .long t_det, .ref (a_t 25), .int t_mask, .int t_mode, .int t_wanted, .int t_orders, .int t_foundAt, .long t_foundBy, .ref (a_t 32), .ref (a_t 33), .int t_unlikes, .ref (a_t 35), .ref (a_t 36)])), ((a_t 9), .inl (g.2.2.1 0, 600, .inl t_tape)), (q_n13, .inl (g.2.2.1 0, 5, .inl (upd (upd (upd (upd (fun _ => 0) ((0 : Int32).toNatClampNeg) v1) ((1 : Int32).toNatClampNeg) v2) ((2 : Int32).toNatClampNeg) v3) ((3 : Int32).toNatClampNeg) v4)))]) (k := ((3 : Int32).toNatClampNeg)) cx hG hP hD hS 2 rfl hi5 rfl rfl dX8_feed_31 (fun H locs hP hD hS => ?_)
    have hG := hGk hS
    refine lv_dup hx hb dX8_feed_32 rfl ?_
    refine lv_iconst (v := 4) hx hb dX8_feed_33 (by decide) ?_
    refine lv_iload hx hb dX8_feed_34 (lv_at hl 5 rfl) ?_
    obtain ⟨hi6, h⟩ := chk_out h
    refine xw_iast (ws' := [((a_t 0), .inr (7, [.ref (a_t 1), .ref (a_t 2), .int t_acted, .ref (a_t 4), .ref (a_t 5), .ref (a_t 6), .ref (a_t 7), .ref (a_t 8), .ref (a_t 9), .int t_taped, .int t_faultKind, .int t_faultPlace, .int t_at, .int t_begin, .int t_token, .int t_value, .int t_bad, .ref (a_t 18), .ref (a_t 19), .ref (a_t 20), .int t_wide, .int t_lost, .ref (a_t 23), .long t_det, .ref (a_t 25), .int t_mask, .int t_mode, .int t_wanted, .int t_orders, .int t_foundAt, .long t_foundBy, .ref (a_t 32), .ref (a_t 33), .int t_unlikes, .ref (a_t 35), .ref (a_t 36)])), ((a_t 9), .inl (g.2.2.1 0, 600, .inl t_tape)), (q_n13, .inl (g.2.2.1 0, 5, .inl (upd (upd (upd (upd (upd (fun _ => 0) ((0 : Int32).toNatClampNeg) v1) ((1 : Int32).toNatClampNeg) v2) ((2 : Int32).toNatClampNeg) v3) ((3 : Int32).toNatClampNeg) v4) ((4 : Int32).toNatClampNeg) v5)))]) (k := ((4 : Int32).toNatClampNeg)) cx hG hP hD hS 2 rfl hi6 rfl rfl dX8_feed_36 (fun H locs hP hD hS => ?_)
    have hG := hGk hS
    refine lv_astore (lv' := [(6, .ref q_n13), (0, .ref ((a_t 0))), (1, .int v1), (2, .int v2), (3, .int v3), (4, .int v4), (5, .int v5)]) hx hb dX8_feed_37 hl (by decide) rfl (fun ls hl => ?_)
    refine lv_iconst (v := 0) hx hb dX8_feed_39 (by decide) ?_
    refine lv_istore (lv' := [(7, .int (0)), (6, .ref q_n13), (0, .ref ((a_t 0))), (1, .int v1), (2, .int v2), (3, .int v3), (4, .int v4), (5, .int v5)]) hx hb dX8_feed_40 hl (by decide) rfl (fun ls hl => ?_)
    exact w42 FU t_tape t_taped q_n13 (upd (upd (upd (upd (upd (fun _ => 0) ((0 : Int32).toNatClampNeg) v1) ((1 : Int32).toNatClampNeg) v2) ((2 : Int32).toNatClampNeg) v3) ((3 : Int32).toNatClampNeg) v4) ((4 : Int32).toNatClampNeg) v5) 0 _ _ hP hD hS _ (lv_sub hl [2, 1, 0] rfl) h
  · have h := itn c1 h
    refine lv_iconst (v := -1) hx hb dX8_feed_10 (by decide) ?_
    refine W.widen (k := 1) (n := 5) (Nat.le_of_ble_eq_true rfl) (Nat.le_of_ble_eq_true rfl) ?_
    exact hrt (fun _ => 0) _ _ ((-1)) t_tape t_taped _ _ dX8_feed_11 h (hP.sub [0, 1] rfl) (hD.sub [0, 1] (by decide) rfl) hS
-- X8_end
theorem dX8_end_0 : decode cX8_end 0 = .ok (.iload_n 1, 1) := by decide +kernel
theorem dX8_end_1 : decode cX8_end 1 = .ok (.i2l, 1) := by decide +kernel
theorem dX8_end_2 : decode cX8_end 2 = .ok (.lconst 0, 1) := by decide +kernel
theorem dX8_end_3 : decode cX8_end 3 = .ok (.aload_n 0, 1) := by decide +kernel
theorem dX8_end_4 : decode cX8_end 4 = .ok (.getfield 80, 3) := by decide +kernel
theorem dX8_end_7 : decode cX8_end 7 = .ok (.i2l, 1) := by decide +kernel
theorem dX8_end_8 : decode cX8_end 8 = .ok (.invokestatic 83, 3) := by decide +kernel
theorem dX8_end_11 : decode cX8_end 11 = .ok (.ifCond .ne 5, 3) := by decide +kernel
theorem dX8_end_14 : decode cX8_end 14 = .ok (.iconst (-1), 1) := by decide +kernel
theorem dX8_end_15 : decode cX8_end 15 = .ok (.ireturn, 1) := by decide +kernel
theorem dX8_end_16 : decode cX8_end 16 = .ok (.aload_n 0, 1) := by decide +kernel
theorem dX8_end_17 : decode cX8_end 17 = .ok (.iload_n 1, 1) := by decide +kernel
theorem dX8_end_18 : decode cX8_end 18 = .ok (.putfield 80, 3) := by decide +kernel
theorem dX8_end_21 : decode cX8_end 21 = .ok (.iload_n 1, 1) := by decide +kernel
theorem dX8_end_22 : decode cX8_end 22 = .ok (.ireturn, 1) := by decide +kernel
noncomputable def fX8_end  (t_taped : Int32) (v1 : Int32) : Option (Int32 × Int32) := (if (fX8_in v1.toInt64 0 t_taped.toInt64) = 0 then some ((-1), t_taped) else some (v1, v1))
set_option maxHeartbeats 4000000 in
set_option maxRecDepth 100000 in
theorem ctX8_end (l : Launch) (g : GT) (sz : Nat) (a_t : Nat → Nat) (t_acted : Int32) (t_taped : Int32) (t_faultKind : Int32) (t_faultPlace : Int32) (t_at : Int32) (t_begin : Int32) (t_token : Int32) (t_value : Int32) (t_bad : Int32) (t_wide : Int32) (t_lost : Int32) (t_det : Int64) (t_mask : Int32) (t_mode : Int32) (t_wanted : Int32) (t_orders : Int32) (t_foundAt : Int32) (t_foundBy : Int64) (t_unlikes : Int32) (v1 : Int32) (o : Int32) (o_t_taped : Int32) (h : fX8_end t_taped v1 = some (o, o_t_taped)) : Met l yX8_end (Cond.code yX8_end cX8_end 2 (some .int) :: Tw) ⟨1, 0, 0, 25⟩ (va_Pc [.ref ((a_t 0)), .int v1] (rwB g [((a_t 0), .inr (7, [.ref (a_t 1), .ref (a_t 2), .int t_acted, .ref (a_t 4), .ref (a_t 5), .ref (a_t 6), .ref (a_t 7), .ref (a_t 8), .ref (a_t 9), .int t_taped, .int t_faultKind, .int t_faultPlace, .int t_at, .int t_begin, .int t_token, .int t_value, .int t_bad, .ref (a_t 18), .ref (a_t 19), .ref (a_t 20), .int t_wide, .int t_lost, .ref (a_t 23), .long t_det, .ref (a_t 25), .int t_mask, .int t_mode, .int t_wanted, .int t_orders, .int t_foundAt, .long t_foundBy, .ref (a_t 32), .ref (a_t 33), .int t_unlikes, .ref (a_t 35), .ref (a_t 36)]))] sz)) (va_Qi (fun x (_ : Nat → Nat) => x = o) (fun u => rwE g (va_A [((a_t 0), .inr (7, [.ref (a_t 1), .ref (a_t 2), .int t_acted, .ref (a_t 4), .ref (a_t 5), .ref (a_t 6), .ref (a_t 7), .ref (a_t 8), .ref (a_t 9), .int t_taped, .int t_faultKind, .int t_faultPlace, .int t_at, .int t_begin, .int t_token, .int t_value, .int t_bad, .ref (a_t 18), .ref (a_t 19), .ref (a_t 20), .int t_wide, .int t_lost, .ref (a_t 23), .long t_det, .ref (a_t 25), .int t_mask, .int t_mode, .int t_wanted, .int t_orders, .int t_foundAt, .long t_foundBy, .ref (a_t 32), .ref (a_t 33), .int t_unlikes, .ref (a_t 35), .ref (a_t 36)]))] sz) [((a_t 0), .inr (7, [.ref (a_t 1), .ref (a_t 2), .int t_acted, .ref (a_t 4), .ref (a_t 5), .ref (a_t 6), .ref (a_t 7), .ref (a_t 8), .ref (a_t 9), .int o_t_taped, .int t_faultKind, .int t_faultPlace, .int t_at, .int t_begin, .int t_token, .int t_value, .int t_bad, .ref (a_t 18), .ref (a_t 19), .ref (a_t 20), .int t_wide, .int t_lost, .ref (a_t 23), .long t_det, .ref (a_t 25), .int t_mask, .int t_mode, .int t_wanted, .int t_orders, .int t_foundAt, .long t_foundBy, .ref (a_t 32), .ref (a_t 33), .int t_unlikes, .ref (a_t 35), .ref (a_t 36)]))]) (va_A [((a_t 0), .inr (7, [.ref (a_t 1), .ref (a_t 2), .int t_acted, .ref (a_t 4), .ref (a_t 5), .ref (a_t 6), .ref (a_t 7), .ref (a_t 8), .ref (a_t 9), .int t_taped, .int t_faultKind, .int t_faultPlace, .int t_at, .int t_begin, .int t_token, .int t_value, .int t_bad, .ref (a_t 18), .ref (a_t 19), .ref (a_t 20), .int t_wide, .int t_lost, .ref (a_t 23), .long t_det, .ref (a_t 25), .int t_mask, .int t_mode, .int t_wanted, .int t_orders, .int t_foundAt, .long t_foundBy, .ref (a_t 32), .ref (a_t 33), .int t_unlikes, .ref (a_t 35), .ref (a_t 36)]))] sz)) 0 0 (va_A [((a_t 0), .inr (7, [.ref (a_t 1), .ref (a_t 2), .int t_acted, .ref (a_t 4), .ref (a_t 5), .ref (a_t 6), .ref (a_t 7), .ref (a_t 8), .ref (a_t 9), .int t_taped, .int t_faultKind, .int t_faultPlace, .int t_at, .int t_begin, .int t_token, .int t_value, .int t_bad, .ref (a_t 18), .ref (a_t 19), .ref (a_t 20), .int t_wide, .int t_lost, .ref (a_t 23), .long t_det, .ref (a_t 25), .int t_mask, .int t_mode, .int t_wanted, .int t_orders, .int t_foundAt, .long t_foundBy, .ref (a_t 32), .ref (a_t 33), .int t_unlikes, .ref (a_t 35), .ref (a_t 36)]))] sz) := by
  refine rw_meti (by decide) (Nat.le_of_ble_eq_true rfl) (lv0 := [(0, .ref ((a_t 0))), (1, .int v1)]) rfl ?_
  intro p e s m args below meth c ls Q A cx hret hG hAb hb0 hA hP hD hl
  have hx := cx.1
  have hb := cx.2.1
  have hG0 := hG
  have hGk : ∀ {H : Heap} {locs : List Loc}, va_S A s.heap H locs → GE g s H := fun hS => hG0.keptS hAb hS
  have hSb : ∀ {H : Heap} {locs : List Loc}, va_S A s.heap H locs → va_S (fun a => g.1 ≤ a) s.heap H locs := fun hS => ⟨hS.1, fun q h1 h2 => hS.2.1 q h1 (fun z => h2 (hAb q z)), fun l hl => hAb _ (hS.2.2 l hl)⟩
  have hS : va_S A s.heap s.heap [] := va_S.rf
  have hrt : ∀ (u : Nat → Nat) (pc : Nat) (ls : Array Slot) (v : Int32) (x_t_taped : Int32) (H : Heap) (locs : List Loc), decode cX8_end pc = .ok (.ireturn, 1) → some (v, x_t_taped) = some (o, o_t_taped) → va_P g.2.1 vwCl [((a_t 0), .inr (7, [.ref (a_t 1), .ref (a_t 2), .int t_acted, .ref (a_t 4), .ref (a_t 5), .ref (a_t 6), .ref (a_t 7), .ref (a_t 8), .ref (a_t 9), .int x_t_taped, .int t_faultKind, .int t_faultPlace, .int t_at, .int t_begin, .int t_token, .int t_value, .int t_bad, .ref (a_t 18), .ref (a_t 19), .ref (a_t 20), .int t_wide, .int t_lost, .ref (a_t 23), .long t_det, .ref (a_t 25), .int t_mask, .int t_mode, .int t_wanted, .int t_orders, .int t_foundAt, .long t_foundBy, .ref (a_t 32), .ref (a_t 33), .int t_unlikes, .ref (a_t 35), .ref (a_t 36)]))] H → va_D A [((a_t 0), .inr (7, [.ref (a_t 1), .ref (a_t 2), .int t_acted, .ref (a_t 4), .ref (a_t 5), .ref (a_t 6), .ref (a_t 7), .ref (a_t 8), .ref (a_t 9), .int x_t_taped, .int t_faultKind, .int t_faultPlace, .int t_at, .int t_begin, .int t_token, .int t_value, .int t_bad, .ref (a_t 18), .ref (a_t 19), .ref (a_t 20), .int t_wide, .int t_lost, .ref (a_t 23), .long t_det, .ref (a_t 25), .int t_mask, .int t_mode, .int t_wanted, .int t_orders, .int t_foundAt, .long t_foundBy, .ref (a_t 32), .ref (a_t 33), .int t_unlikes, .ref (a_t 35), .ref (a_t 36)]))] → va_S A s.heap H locs → W p l e ⟨1, 0, 0, 25⟩ s m args below meth c H locs 0 0 Q (F0 m pc ls [.int v]) := by
    intro u pc ls v x_t_taped H locs hd h hP hD hS
    cases h
    exact hret u _ _ _ _ _ hd rfl hP hD hS
  unfold fX8_end at h
  refine lv_iload_n hx hb dX8_end_0 rfl (lv_at hl 1 rfl) ?_
  refine lv_i2l (v := v1.toInt64) hx hb dX8_end_1 rfl ?_
  refine lv_lconst (v := 0) hx hb dX8_end_2 (by decide) ?_
  refine lv_aload_n hx hb dX8_end_3 rfl (lv_at hl 0 rfl) ?_
  refine xa_get (C := RX8) (T := TX8) (N := 36) cx hG hP 0 rfl rfl uX8 9 (by decide) lf_X8_80 rfl dX8_end_4 ?_
  refine lv_i2l (v := t_taped.toInt64) hx hb dX8_end_7 rfl ?_
  refine ro_z (runS (As := [.long v1.toInt64, .long (0), .long t_taped.toInt64]) (rest := []) cx hl.1 (ctX8_in l g v1.toInt64 (0) t_taped.toInt64 (fX8_in v1.toInt64 0 t_taped.toInt64) rfl) kmX8_in ksX8_in lm_X8_83 ⟨rfl, rfl⟩ ⟨Nat.le_of_ble_eq_true rfl, Nat.le_of_ble_eq_true rfl⟩ (roS hG (hP.sub [] rfl)) rfl rfl (Nat.le_of_ble_eq_true rfl) dX8_end_8 ⟨Nat.le_of_ble_eq_true rfl, Nat.le_of_ble_eq_true rfl⟩) (fun hz1 => ?_)
  refine lv_if_ne (tgt := 16) hx hb dX8_end_11 (by decide) (fun c2 => ?_) (fun c2 => ?_)
  · have h := itn c2 h
    refine lv_aload_n hx hb dX8_end_16 rfl (lv_at hl 0 rfl) ?_
    refine lv_iload_n hx hb dX8_end_17 rfl (lv_at hl 1 rfl) ?_
    refine xw_put (C := RX8) (T := TX8) (N := 36) (ty := .int) (v := .int v1) (ws' := [((a_t 0), .inr (7, [.ref (a_t 1), .ref (a_t 2), .int t_acted, .ref (a_t 4), .ref (a_t 5), .ref (a_t 6), .ref (a_t 7), .ref (a_t 8), .ref (a_t 9), .int v1, .int t_faultKind, .int t_faultPlace, .int t_at, .int t_begin, .int t_token, .int t_value, .int t_bad, .ref (a_t 18), .ref (a_t 19), .ref (a_t 20), .int t_wide, .int t_lost, .ref (a_t 23), .long t_det, .ref (a_t 25), .int t_mask, .int t_mode, .int t_wanted, .int t_orders, .int t_foundAt, .long t_foundBy, .ref (a_t 32), .ref (a_t 33), .int t_unlikes, .ref (a_t 35), .ref (a_t 36)]))]) cx hG hP hD hS 0 rfl rfl uX8 tyX8 tyX8_ok nmX8 9 (by decide) lf_X8_80 rfl (by decide +kernel) rfl rfl (Nat.le_of_ble_eq_true rfl) rfl dX8_end_18 (fun H locs hP hD hS => ?_)
    have hG := hGk hS
    refine lv_iload_n hx hb dX8_end_21 rfl (lv_at hl 1 rfl) ?_
    exact hrt (fun _ => 0) _ _ v1 v1 _ _ dX8_end_22 h (hP.sub [0] rfl) (hD.sub [0] (by decide) rfl) hS
  · have h := itp c2 h
    refine lv_iconst (v := -1) hx hb dX8_end_14 (by decide) ?_
    exact hrt (fun _ => 0) _ _ ((-1)) t_taped _ _ dX8_end_15 h (hP.sub [0] rfl) (hD.sub [0] (by decide) rfl) hS
-- X8_isAt
theorem dX8_isAt_0 : decode cX8_isAt 0 = .ok (.aload_n 0, 1) := by decide +kernel
theorem dX8_isAt_1 : decode cX8_isAt 1 = .ok (.getfield 87, 3) := by decide +kernel
theorem dX8_isAt_4 : decode cX8_isAt 4 = .ok (.aload_n 0, 1) := by decide +kernel
theorem dX8_isAt_5 : decode cX8_isAt 5 = .ok (.getfield 80, 3) := by decide +kernel
theorem dX8_isAt_8 : decode cX8_isAt 8 = .ok (.if_icmp .ge 27, 3) := by decide +kernel
theorem dX8_isAt_11 : decode cX8_isAt 11 = .ok (.aload_n 0, 1) := by decide +kernel
theorem dX8_isAt_12 : decode cX8_isAt 12 = .ok (.getfield 44, 3) := by decide +kernel
theorem dX8_isAt_15 : decode cX8_isAt 15 = .ok (.aload_n 0, 1) := by decide +kernel
theorem dX8_isAt_16 : decode cX8_isAt 16 = .ok (.getfield 87, 3) := by decide +kernel
theorem dX8_isAt_19 : decode cX8_isAt 19 = .ok (.iaload, 1) := by decide +kernel
theorem dX8_isAt_20 : decode cX8_isAt 20 = .ok (.i2l, 1) := by decide +kernel
theorem dX8_isAt_21 : decode cX8_isAt 21 = .ok (.iload_n 1, 1) := by decide +kernel
theorem dX8_isAt_22 : decode cX8_isAt 22 = .ok (.i2l, 1) := by decide +kernel
theorem dX8_isAt_23 : decode cX8_isAt 23 = .ok (.iload_n 2, 1) := by decide +kernel
theorem dX8_isAt_24 : decode cX8_isAt 24 = .ok (.i2l, 1) := by decide +kernel
theorem dX8_isAt_25 : decode cX8_isAt 25 = .ok (.invokestatic 83, 3) := by decide +kernel
theorem dX8_isAt_28 : decode cX8_isAt 28 = .ok (.ifCond .eq 7, 3) := by decide +kernel
theorem dX8_isAt_31 : decode cX8_isAt 31 = .ok (.iconst 1, 1) := by decide +kernel
theorem dX8_isAt_32 : decode cX8_isAt 32 = .ok (.goto 4, 3) := by decide +kernel
theorem dX8_isAt_35 : decode cX8_isAt 35 = .ok (.iconst 0, 1) := by decide +kernel
theorem dX8_isAt_36 : decode cX8_isAt 36 = .ok (.ireturn, 1) := by decide +kernel
noncomputable def fX8_isAt  (t_tape : Nat → Int32) (t_taped : Int32) (t_at : Int32) (v1 : Int32) (v2 : Int32) : Option (Int32) := (if t_taped ≤ t_at then some (0) else chk 600 t_at ((if (fX8_in ((t_tape t_at.toNatClampNeg).toInt64) v1.toInt64 v2.toInt64) = 0 then some (0) else some (1))))
set_option maxHeartbeats 4000000 in
set_option maxRecDepth 100000 in
theorem ctX8_isAt (l : Launch) (g : GT) (a_t : Nat → Nat) (t_acted : Int32) (t_taped : Int32) (t_faultKind : Int32) (t_faultPlace : Int32) (t_at : Int32) (t_begin : Int32) (t_token : Int32) (t_value : Int32) (t_bad : Int32) (t_wide : Int32) (t_lost : Int32) (t_det : Int64) (t_mask : Int32) (t_mode : Int32) (t_wanted : Int32) (t_orders : Int32) (t_foundAt : Int32) (t_foundBy : Int64) (t_unlikes : Int32) (t_tape : Nat → Int32) (v1 : Int32) (v2 : Int32) (o : Int32) (h : fX8_isAt t_tape t_taped t_at v1 v2 = some o) : Met l yX8_isAt (Cond.code yX8_isAt cX8_isAt 3 (some .boolean) :: Tw) ⟨1, 0, 0, 25⟩ (va_Pc [.ref ((a_t 0)), .int v1, .int v2] (roB g [((a_t 0), .inr (7, [.ref (a_t 1), .ref (a_t 2), .int t_acted, .ref (a_t 4), .ref (a_t 5), .ref (a_t 6), .ref (a_t 7), .ref (a_t 8), .ref (a_t 9), .int t_taped, .int t_faultKind, .int t_faultPlace, .int t_at, .int t_begin, .int t_token, .int t_value, .int t_bad, .ref (a_t 18), .ref (a_t 19), .ref (a_t 20), .int t_wide, .int t_lost, .ref (a_t 23), .long t_det, .ref (a_t 25), .int t_mask, .int t_mode, .int t_wanted, .int t_orders, .int t_foundAt, .long t_foundBy, .ref (a_t 32), .ref (a_t 33), .int t_unlikes, .ref (a_t 35), .ref (a_t 36)])), ((a_t 9), .inl (g.2.2.1 0, 600, .inl t_tape))])) (vp_Si (fun x => x = o ∧ (x = 0 ∨ x = 1))) 0 0 (fun _ => False) := by
  refine ro_metz (by decide) (Nat.le_of_ble_eq_true rfl) (lv0 := [(0, .ref ((a_t 0))), (1, .int v1), (2, .int v2)]) rfl ?_
  intro p e s m args below meth c ls Q cx hret hG hP hl
  have hx := cx.1
  have hb := cx.2.1
  have hG0 := hG
  unfold fX8_isAt at h
  refine lv_aload_n hx hb dX8_isAt_0 rfl (lv_at hl 0 rfl) ?_
  refine xa_get (C := RX8) (T := TX8) (N := 36) cx hG hP 0 rfl rfl uX8 12 (by decide) lf_X8_87 rfl dX8_isAt_1 ?_
  refine lv_aload_n hx hb dX8_isAt_4 rfl (lv_at hl 0 rfl) ?_
  refine xa_get (C := RX8) (T := TX8) (N := 36) cx hG hP 0 rfl rfl uX8 9 (by decide) lf_X8_80 rfl dX8_isAt_5 ?_
  refine lv_icmp_ge (tgt := 35) hx hb dX8_isAt_8 (by decide) (fun c1 => ?_) (fun c1 => ?_)
  · have h := itp c1 h
    refine lv_iconst (v := 0) hx hb dX8_isAt_35 (by decide) ?_
    exact hret _ _ _ dX8_isAt_36 (by decide) (Option.some.inj h)
  · have h := itn c1 h
    refine lv_aload_n hx hb dX8_isAt_11 rfl (lv_at hl 0 rfl) ?_
    refine xa_get (C := RX8) (T := TX8) (N := 36) cx hG hP 0 rfl rfl uX8 8 (by decide) lf_X8_44 rfl dX8_isAt_12 ?_
    refine lv_aload_n hx hb dX8_isAt_15 rfl (lv_at hl 0 rfl) ?_
    refine xa_get (C := RX8) (T := TX8) (N := 36) cx hG hP 0 rfl rfl uX8 12 (by decide) lf_X8_87 rfl dX8_isAt_16 ?_
    obtain ⟨hi2, h⟩ := chk_out h
    refine xa_iald cx hG hP 1 rfl hi2 rfl dX8_isAt_19 ?_
    refine lv_i2l (v := (t_tape t_at.toNatClampNeg).toInt64) hx hb dX8_isAt_20 rfl ?_
    refine lv_iload_n hx hb dX8_isAt_21 rfl (lv_at hl 1 rfl) ?_
    refine lv_i2l (v := v1.toInt64) hx hb dX8_isAt_22 rfl ?_
    refine lv_iload_n hx hb dX8_isAt_23 rfl (lv_at hl 2 rfl) ?_
    refine lv_i2l (v := v2.toInt64) hx hb dX8_isAt_24 rfl ?_
    refine ro_z (runS (As := [.long ((t_tape t_at.toNatClampNeg).toInt64), .long v1.toInt64, .long v2.toInt64]) (rest := []) cx hl.1 (ctX8_in l g ((t_tape t_at.toNatClampNeg).toInt64) v1.toInt64 v2.toInt64 (fX8_in ((t_tape t_at.toNatClampNeg).toInt64) v1.toInt64 v2.toInt64) rfl) kmX8_in ksX8_in lm_X8_83 ⟨rfl, rfl⟩ ⟨Nat.le_of_ble_eq_true rfl, Nat.le_of_ble_eq_true rfl⟩ (roS hG (hP.sub [] rfl)) rfl rfl (Nat.le_of_ble_eq_true rfl) dX8_isAt_25 ⟨Nat.le_of_ble_eq_true rfl, Nat.le_of_ble_eq_true rfl⟩) (fun hz3 => ?_)
    refine lv_if_eq (tgt := 35) hx hb dX8_isAt_28 (by decide) (fun c4 => ?_) (fun c4 => ?_)
    · have h := itp c4 h
      refine lv_iconst (v := 0) hx hb dX8_isAt_35 (by decide) ?_
      exact hret _ _ _ dX8_isAt_36 (by decide) (Option.some.inj h)
    · have h := itn c4 h
      refine lv_iconst (v := 1) hx hb dX8_isAt_31 (by decide) ?_
      refine lv_goto (tgt := 36) hx hb dX8_isAt_32 (by decide) ?_
      exact hret _ _ _ dX8_isAt_36 (by decide) (Option.some.inj h)
-- X8_next
theorem dX8_next_0 : decode cX8_next 0 = .ok (.aload_n 0, 1) := by decide +kernel
theorem dX8_next_1 : decode cX8_next 1 = .ok (.bipush 32, 2) := by decide +kernel
theorem dX8_next_3 : decode cX8_next 3 = .ok (.bipush 32, 2) := by decide +kernel
theorem dX8_next_5 : decode cX8_next 5 = .ok (.invokevirtual 90, 3) := by decide +kernel
theorem dX8_next_8 : decode cX8_next 8 = .ok (.ifCond .ne 14, 3) := by decide +kernel
theorem dX8_next_11 : decode cX8_next 11 = .ok (.aload_n 0, 1) := by decide +kernel
theorem dX8_next_12 : decode cX8_next 12 = .ok (.bipush 10, 2) := by decide +kernel
theorem dX8_next_14 : decode cX8_next 14 = .ok (.bipush 10, 2) := by decide +kernel
theorem dX8_next_16 : decode cX8_next 16 = .ok (.invokevirtual 90, 3) := by decide +kernel
theorem dX8_next_19 : decode cX8_next 19 = .ok (.ifCond .eq 16, 3) := by decide +kernel
theorem dX8_next_22 : decode cX8_next 22 = .ok (.aload_n 0, 1) := by decide +kernel
theorem dX8_next_23 : decode cX8_next 23 = .ok (.dup, 1) := by decide +kernel
theorem dX8_next_24 : decode cX8_next 24 = .ok (.getfield 87, 3) := by decide +kernel
theorem dX8_next_27 : decode cX8_next 27 = .ok (.iconst 1, 1) := by decide +kernel
theorem dX8_next_28 : decode cX8_next 28 = .ok (.iadd, 1) := by decide +kernel
theorem dX8_next_29 : decode cX8_next 29 = .ok (.putfield 87, 3) := by decide +kernel
theorem dX8_next_32 : decode cX8_next 32 = .ok (.goto (-32), 3) := by decide +kernel
theorem dX8_next_35 : decode cX8_next 35 = .ok (.aload_n 0, 1) := by decide +kernel
theorem dX8_next_36 : decode cX8_next 36 = .ok (.aload_n 0, 1) := by decide +kernel
theorem dX8_next_37 : decode cX8_next 37 = .ok (.getfield 87, 3) := by decide +kernel
theorem dX8_next_40 : decode cX8_next 40 = .ok (.putfield 94, 3) := by decide +kernel
theorem dX8_next_43 : decode cX8_next 43 = .ok (.aload_n 0, 1) := by decide +kernel
theorem dX8_next_44 : decode cX8_next 44 = .ok (.iconst 0, 1) := by decide +kernel
theorem dX8_next_45 : decode cX8_next 45 = .ok (.putfield 97, 3) := by decide +kernel
theorem dX8_next_48 : decode cX8_next 48 = .ok (.aload_n 0, 1) := by decide +kernel
theorem dX8_next_49 : decode cX8_next 49 = .ok (.getfield 87, 3) := by decide +kernel
theorem dX8_next_52 : decode cX8_next 52 = .ok (.aload_n 0, 1) := by decide +kernel
theorem dX8_next_53 : decode cX8_next 53 = .ok (.getfield 80, 3) := by decide +kernel
theorem dX8_next_56 : decode cX8_next 56 = .ok (.if_icmp .ne 11, 3) := by decide +kernel
theorem dX8_next_59 : decode cX8_next 59 = .ok (.aload_n 0, 1) := by decide +kernel
theorem dX8_next_60 : decode cX8_next 60 = .ok (.iconst 0, 1) := by decide +kernel
theorem dX8_next_61 : decode cX8_next 61 = .ok (.putfield 100, 3) := by decide +kernel
theorem dX8_next_64 : decode cX8_next 64 = .ok (.goto 142, 3) := by decide +kernel
theorem dX8_next_67 : decode cX8_next 67 = .ok (.aload_n 0, 1) := by decide +kernel
theorem dX8_next_68 : decode cX8_next 68 = .ok (.bipush 97, 2) := by decide +kernel
theorem dX8_next_70 : decode cX8_next 70 = .ok (.bipush 122, 2) := by decide +kernel
theorem dX8_next_72 : decode cX8_next 72 = .ok (.invokevirtual 90, 3) := by decide +kernel
theorem dX8_next_75 : decode cX8_next 75 = .ok (.ifCond .eq 32, 3) := by decide +kernel
theorem dX8_next_78 : decode cX8_next 78 = .ok (.aload_n 0, 1) := by decide +kernel
theorem dX8_next_79 : decode cX8_next 79 = .ok (.iconst 1, 1) := by decide +kernel
theorem dX8_next_80 : decode cX8_next 80 = .ok (.putfield 100, 3) := by decide +kernel
theorem dX8_next_83 : decode cX8_next 83 = .ok (.aload_n 0, 1) := by decide +kernel
theorem dX8_next_84 : decode cX8_next 84 = .ok (.bipush 97, 2) := by decide +kernel
theorem dX8_next_86 : decode cX8_next 86 = .ok (.bipush 122, 2) := by decide +kernel
theorem dX8_next_88 : decode cX8_next 88 = .ok (.invokevirtual 90, 3) := by decide +kernel
theorem dX8_next_91 : decode cX8_next 91 = .ok (.ifCond .eq 115, 3) := by decide +kernel
theorem dX8_next_94 : decode cX8_next 94 = .ok (.aload_n 0, 1) := by decide +kernel
theorem dX8_next_95 : decode cX8_next 95 = .ok (.dup, 1) := by decide +kernel
theorem dX8_next_96 : decode cX8_next 96 = .ok (.getfield 87, 3) := by decide +kernel
theorem dX8_next_99 : decode cX8_next 99 = .ok (.iconst 1, 1) := by decide +kernel
theorem dX8_next_100 : decode cX8_next 100 = .ok (.iadd, 1) := by decide +kernel
theorem dX8_next_101 : decode cX8_next 101 = .ok (.putfield 87, 3) := by decide +kernel
theorem dX8_next_104 : decode cX8_next 104 = .ok (.goto (-21), 3) := by decide +kernel
theorem dX8_next_107 : decode cX8_next 107 = .ok (.aload_n 0, 1) := by decide +kernel
theorem dX8_next_108 : decode cX8_next 108 = .ok (.bipush 48, 2) := by decide +kernel
theorem dX8_next_110 : decode cX8_next 110 = .ok (.bipush 57, 2) := by decide +kernel
theorem dX8_next_112 : decode cX8_next 112 = .ok (.invokevirtual 90, 3) := by decide +kernel
theorem dX8_next_115 : decode cX8_next 115 = .ok (.ifCond .eq 61, 3) := by decide +kernel
theorem dX8_next_118 : decode cX8_next 118 = .ok (.aload_n 0, 1) := by decide +kernel
theorem dX8_next_119 : decode cX8_next 119 = .ok (.iconst 2, 1) := by decide +kernel
theorem dX8_next_120 : decode cX8_next 120 = .ok (.putfield 100, 3) := by decide +kernel
theorem dX8_next_123 : decode cX8_next 123 = .ok (.aload_n 0, 1) := by decide +kernel
theorem dX8_next_124 : decode cX8_next 124 = .ok (.bipush 48, 2) := by decide +kernel
theorem dX8_next_126 : decode cX8_next 126 = .ok (.bipush 57, 2) := by decide +kernel
theorem dX8_next_128 : decode cX8_next 128 = .ok (.invokevirtual 90, 3) := by decide +kernel
theorem dX8_next_131 : decode cX8_next 131 = .ok (.ifCond .eq 75, 3) := by decide +kernel
theorem dX8_next_134 : decode cX8_next 134 = .ok (.aload_n 0, 1) := by decide +kernel
theorem dX8_next_135 : decode cX8_next 135 = .ok (.ldc 103, 2) := by decide +kernel
theorem dX8_next_137 : decode cX8_next 137 = .ok (.bipush 10, 2) := by decide +kernel
theorem dX8_next_139 : decode cX8_next 139 = .ok (.aload_n 0, 1) := by decide +kernel
theorem dX8_next_140 : decode cX8_next 140 = .ok (.getfield 97, 3) := by decide +kernel
theorem dX8_next_143 : decode cX8_next 143 = .ok (.imul, 1) := by decide +kernel
theorem dX8_next_144 : decode cX8_next 144 = .ok (.aload_n 0, 1) := by decide +kernel
theorem dX8_next_145 : decode cX8_next 145 = .ok (.getfield 44, 3) := by decide +kernel
theorem dX8_next_148 : decode cX8_next 148 = .ok (.aload_n 0, 1) := by decide +kernel
theorem dX8_next_149 : decode cX8_next 149 = .ok (.getfield 87, 3) := by decide +kernel
theorem dX8_next_152 : decode cX8_next 152 = .ok (.iaload, 1) := by decide +kernel
theorem dX8_next_153 : decode cX8_next 153 = .ok (.iadd, 1) := by decide +kernel
theorem dX8_next_154 : decode cX8_next 154 = .ok (.bipush 48, 2) := by decide +kernel
theorem dX8_next_156 : decode cX8_next 156 = .ok (.isub, 1) := by decide +kernel
theorem dX8_next_157 : decode cX8_next 157 = .ok (.invokestatic 104, 3) := by decide +kernel
theorem dX8_next_160 : decode cX8_next 160 = .ok (.putfield 97, 3) := by decide +kernel
theorem dX8_next_163 : decode cX8_next 163 = .ok (.aload_n 0, 1) := by decide +kernel
theorem dX8_next_164 : decode cX8_next 164 = .ok (.dup, 1) := by decide +kernel
theorem dX8_next_165 : decode cX8_next 165 = .ok (.getfield 87, 3) := by decide +kernel
theorem dX8_next_168 : decode cX8_next 168 = .ok (.iconst 1, 1) := by decide +kernel
theorem dX8_next_169 : decode cX8_next 169 = .ok (.iadd, 1) := by decide +kernel
theorem dX8_next_170 : decode cX8_next 170 = .ok (.putfield 87, 3) := by decide +kernel
theorem dX8_next_173 : decode cX8_next 173 = .ok (.goto (-50), 3) := by decide +kernel
theorem dX8_next_176 : decode cX8_next 176 = .ok (.aload_n 0, 1) := by decide +kernel
theorem dX8_next_177 : decode cX8_next 177 = .ok (.aload_n 0, 1) := by decide +kernel
theorem dX8_next_178 : decode cX8_next 178 = .ok (.bipush 59, 2) := by decide +kernel
theorem dX8_next_180 : decode cX8_next 180 = .ok (.bipush 59, 2) := by decide +kernel
theorem dX8_next_182 : decode cX8_next 182 = .ok (.invokevirtual 90, 3) := by decide +kernel
theorem dX8_next_185 : decode cX8_next 185 = .ok (.ifCond .eq 7, 3) := by decide +kernel
theorem dX8_next_188 : decode cX8_next 188 = .ok (.iconst 3, 1) := by decide +kernel
theorem dX8_next_189 : decode cX8_next 189 = .ok (.goto 4, 3) := by decide +kernel
theorem dX8_next_192 : decode cX8_next 192 = .ok (.iconst 4, 1) := by decide +kernel
theorem dX8_next_193 : decode cX8_next 193 = .ok (.putfield 100, 3) := by decide +kernel
theorem dX8_next_196 : decode cX8_next 196 = .ok (.aload_n 0, 1) := by decide +kernel
theorem dX8_next_197 : decode cX8_next 197 = .ok (.dup, 1) := by decide +kernel
theorem dX8_next_198 : decode cX8_next 198 = .ok (.getfield 87, 3) := by decide +kernel
theorem dX8_next_201 : decode cX8_next 201 = .ok (.iconst 1, 1) := by decide +kernel
theorem dX8_next_202 : decode cX8_next 202 = .ok (.iadd, 1) := by decide +kernel
theorem dX8_next_203 : decode cX8_next 203 = .ok (.putfield 87, 3) := by decide +kernel
theorem dX8_next_206 : decode cX8_next 206 = .ok (.return_, 1) := by decide +kernel
noncomputable def fX8_next_22 (k0 : (Nat → Int32) → Int32 → Int32 → Int32 → Int32 → Int32 → Option (Int32 × Int32 × Int32 × Int32)) (t_tape : Nat → Int32) (t_taped : Int32) (t_at : Int32) (t_begin : Int32) (t_token : Int32) (t_value : Int32) : Option (Int32 × Int32 × Int32 × Int32) := k0 t_tape t_taped (t_at + 1) t_begin t_token t_value
noncomputable def fX8_next_83  : Nat → (Nat → Int32) → Int32 → Int32 → Int32 → Int32 → Int32 → Option (Int32 × Int32 × Int32 × Int32)
  | 0, _, _, _, _, _, _ => none
  | n + 1, t_tape, t_taped, t_at, t_begin, t_token, t_value => (fX8_isAt t_tape t_taped t_at 97 122).bind fun r22 => (if r22 = 0 then some (t_at, t_begin, t_token, t_value) else fX8_next_83 n t_tape t_taped (t_at + 1) t_begin t_token t_value)
theorem fX8_next_83_z  (t_tape : Nat → Int32) (t_taped : Int32) (t_at : Int32) (t_begin : Int32) (t_token : Int32) (t_value : Int32) : fX8_next_83  0 t_tape t_taped t_at t_begin t_token t_value = none := rfl
theorem fX8_next_83_s  (n : Nat) (t_tape : Nat → Int32) (t_taped : Int32) (t_at : Int32) (t_begin : Int32) (t_token : Int32) (t_value : Int32) : fX8_next_83  (n + 1) t_tape t_taped t_at t_begin t_token t_value = (fX8_isAt t_tape t_taped t_at 97 122).bind fun r22 => (if r22 = 0 then some (t_at, t_begin, t_token, t_value) else fX8_next_83 n t_tape t_taped (t_at + 1) t_begin t_token t_value) := rfl
noncomputable def fX8_next_123  : Nat → (Nat → Int32) → Int32 → Int32 → Int32 → Int32 → Int32 → Option (Int32 × Int32 × Int32 × Int32)
  | 0, _, _, _, _, _, _ => none
  | n + 1, t_tape, t_taped, t_at, t_begin, t_token, t_value => (fX8_isAt t_tape t_taped t_at 48 57).bind fun r26 => (if r26 = 0 then some (t_at, t_begin, t_token, t_value) else chk 600 t_at (fX8_next_123 n t_tape t_taped (t_at + 1) t_begin t_token (imin 99999 (((10 * t_value) + (t_tape t_at.toNatClampNeg)) - 48))))
theorem fX8_next_123_z  (t_tape : Nat → Int32) (t_taped : Int32) (t_at : Int32) (t_begin : Int32) (t_token : Int32) (t_value : Int32) : fX8_next_123  0 t_tape t_taped t_at t_begin t_token t_value = none := rfl
theorem fX8_next_123_s  (n : Nat) (t_tape : Nat → Int32) (t_taped : Int32) (t_at : Int32) (t_begin : Int32) (t_token : Int32) (t_value : Int32) : fX8_next_123  (n + 1) t_tape t_taped t_at t_begin t_token t_value = (fX8_isAt t_tape t_taped t_at 48 57).bind fun r26 => (if r26 = 0 then some (t_at, t_begin, t_token, t_value) else chk 600 t_at (fX8_next_123 n t_tape t_taped (t_at + 1) t_begin t_token (imin 99999 (((10 * t_value) + (t_tape t_at.toNatClampNeg)) - 48)))) := rfl
noncomputable def fX8_next_35  (t_tape : Nat → Int32) (t_taped : Int32) (t_at : Int32) (t_begin : Int32) (t_token : Int32) (t_value : Int32) : Option (Int32 × Int32 × Int32 × Int32) := (if t_at = t_taped then some (t_at, t_at, 0, 0) else (fX8_isAt t_tape t_taped t_at 97 122).bind fun r10 => (if r10 = 0 then (fX8_isAt t_tape t_taped t_at 48 57).bind fun r14 => (if r14 = 0 then (fX8_isAt t_tape t_taped t_at 59 59).bind fun r18 => (if r18 = 0 then some (t_at + 1, t_at, 4, 0) else some (t_at + 1, t_at, 3, 0)) else fX8_next_123 FU t_tape t_taped t_at t_at 2 0) else fX8_next_83 FU t_tape t_taped t_at t_at 1 0))
noncomputable def fX8_next_0  : Nat → (Nat → Int32) → Int32 → Int32 → Int32 → Int32 → Int32 → Option (Int32 × Int32 × Int32 × Int32)
  | 0, _, _, _, _, _, _ => none
  | n + 1, t_tape, t_taped, t_at, t_begin, t_token, t_value => (fX8_isAt t_tape t_taped t_at 32 32).bind fun r1 => (if r1 = 0 then (fX8_isAt t_tape t_taped t_at 10 10).bind fun r5 => (if r5 = 0 then fX8_next_35 t_tape t_taped t_at t_begin t_token t_value else fX8_next_22 (fX8_next_0 n) t_tape t_taped t_at t_begin t_token t_value) else fX8_next_22 (fX8_next_0 n) t_tape t_taped t_at t_begin t_token t_value)
theorem fX8_next_0_z  (t_tape : Nat → Int32) (t_taped : Int32) (t_at : Int32) (t_begin : Int32) (t_token : Int32) (t_value : Int32) : fX8_next_0  0 t_tape t_taped t_at t_begin t_token t_value = none := rfl
theorem fX8_next_0_s  (n : Nat) (t_tape : Nat → Int32) (t_taped : Int32) (t_at : Int32) (t_begin : Int32) (t_token : Int32) (t_value : Int32) : fX8_next_0  (n + 1) t_tape t_taped t_at t_begin t_token t_value = (fX8_isAt t_tape t_taped t_at 32 32).bind fun r1 => (if r1 = 0 then (fX8_isAt t_tape t_taped t_at 10 10).bind fun r5 => (if r5 = 0 then fX8_next_35 t_tape t_taped t_at t_begin t_token t_value else fX8_next_22 (fX8_next_0 n) t_tape t_taped t_at t_begin t_token t_value) else fX8_next_22 (fX8_next_0 n) t_tape t_taped t_at t_begin t_token t_value) := rfl
noncomputable def fX8_next (t_tape : Nat → Int32) (t_taped : Int32) (t_at : Int32) (t_begin : Int32) (t_token : Int32) (t_value : Int32) : Option (Int32 × Int32 × Int32 × Int32) := fX8_next_0 FU t_tape t_taped t_at t_begin t_token t_value
set_option maxHeartbeats 4000000 in
set_option maxRecDepth 100000 in
theorem ctX8_next (l : Launch) (g : GT) (sz : Nat) (a_t : Nat → Nat) (t_acted : Int32) (t_taped : Int32) (t_faultKind : Int32) (t_faultPlace : Int32) (t_at : Int32) (t_begin : Int32) (t_token : Int32) (t_value : Int32) (t_bad : Int32) (t_wide : Int32) (t_lost : Int32) (t_det : Int64) (t_mask : Int32) (t_mode : Int32) (t_wanted : Int32) (t_orders : Int32) (t_foundAt : Int32) (t_foundBy : Int64) (t_unlikes : Int32) (t_tape : Nat → Int32) (o_t_at : Int32) (o_t_begin : Int32) (o_t_token : Int32) (o_t_value : Int32) (h : fX8_next t_tape t_taped t_at t_begin t_token t_value = some (o_t_at, o_t_begin, o_t_token, o_t_value)) : Met l yX8_next (Cond.code yX8_next cX8_next 1 none :: Tw) ⟨2, 0, 0, 47⟩ (va_Pc [.ref ((a_t 0))] (rwB g [((a_t 0), .inr (7, [.ref (a_t 1), .ref (a_t 2), .int t_acted, .ref (a_t 4), .ref (a_t 5), .ref (a_t 6), .ref (a_t 7), .ref (a_t 8), .ref (a_t 9), .int t_taped, .int t_faultKind, .int t_faultPlace, .int t_at, .int t_begin, .int t_token, .int t_value, .int t_bad, .ref (a_t 18), .ref (a_t 19), .ref (a_t 20), .int t_wide, .int t_lost, .ref (a_t 23), .long t_det, .ref (a_t 25), .int t_mask, .int t_mode, .int t_wanted, .int t_orders, .int t_foundAt, .long t_foundBy, .ref (a_t 32), .ref (a_t 33), .int t_unlikes, .ref (a_t 35), .ref (a_t 36)])), ((a_t 9), .inl (g.2.2.1 0, 600, .inl t_tape))] sz)) (va_Qv (fun (_ : Nat → Nat) => True) (fun u => rwE g (va_A [((a_t 0), .inr (7, [.ref (a_t 1), .ref (a_t 2), .int t_acted, .ref (a_t 4), .ref (a_t 5), .ref (a_t 6), .ref (a_t 7), .ref (a_t 8), .ref (a_t 9), .int t_taped, .int t_faultKind, .int t_faultPlace, .int t_at, .int t_begin, .int t_token, .int t_value, .int t_bad, .ref (a_t 18), .ref (a_t 19), .ref (a_t 20), .int t_wide, .int t_lost, .ref (a_t 23), .long t_det, .ref (a_t 25), .int t_mask, .int t_mode, .int t_wanted, .int t_orders, .int t_foundAt, .long t_foundBy, .ref (a_t 32), .ref (a_t 33), .int t_unlikes, .ref (a_t 35), .ref (a_t 36)])), ((a_t 9), .inl (g.2.2.1 0, 600, .inl t_tape))] sz) [((a_t 0), .inr (7, [.ref (a_t 1), .ref (a_t 2), .int t_acted, .ref (a_t 4), .ref (a_t 5), .ref (a_t 6), .ref (a_t 7), .ref (a_t 8), .ref (a_t 9), .int t_taped, .int t_faultKind, .int t_faultPlace, .int o_t_at, .int o_t_begin, .int o_t_token, .int o_t_value, .int t_bad, .ref (a_t 18), .ref (a_t 19), .ref (a_t 20), .int t_wide, .int t_lost, .ref (a_t 23), .long t_det, .ref (a_t 25), .int t_mask, .int t_mode, .int t_wanted, .int t_orders, .int t_foundAt, .long t_foundBy, .ref (a_t 32), .ref (a_t 33), .int t_unlikes, .ref (a_t 35), .ref (a_t 36)])), ((a_t 9), .inl (g.2.2.1 0, 600, .inl t_tape))]) (va_A [((a_t 0), .inr (7, [.ref (a_t 1), .ref (a_t 2), .int t_acted, .ref (a_t 4), .ref (a_t 5), .ref (a_t 6), .ref (a_t 7), .ref (a_t 8), .ref (a_t 9), .int t_taped, .int t_faultKind, .int t_faultPlace, .int t_at, .int t_begin, .int t_token, .int t_value, .int t_bad, .ref (a_t 18), .ref (a_t 19), .ref (a_t 20), .int t_wide, .int t_lost, .ref (a_t 23), .long t_det, .ref (a_t 25), .int t_mask, .int t_mode, .int t_wanted, .int t_orders, .int t_foundAt, .long t_foundBy, .ref (a_t 32), .ref (a_t 33), .int t_unlikes, .ref (a_t 35), .ref (a_t 36)])), ((a_t 9), .inl (g.2.2.1 0, 600, .inl t_tape))] sz)) 0 0 (va_A [((a_t 0), .inr (7, [.ref (a_t 1), .ref (a_t 2), .int t_acted, .ref (a_t 4), .ref (a_t 5), .ref (a_t 6), .ref (a_t 7), .ref (a_t 8), .ref (a_t 9), .int t_taped, .int t_faultKind, .int t_faultPlace, .int t_at, .int t_begin, .int t_token, .int t_value, .int t_bad, .ref (a_t 18), .ref (a_t 19), .ref (a_t 20), .int t_wide, .int t_lost, .ref (a_t 23), .long t_det, .ref (a_t 25), .int t_mask, .int t_mode, .int t_wanted, .int t_orders, .int t_foundAt, .long t_foundBy, .ref (a_t 32), .ref (a_t 33), .int t_unlikes, .ref (a_t 35), .ref (a_t 36)])), ((a_t 9), .inl (g.2.2.1 0, 600, .inl t_tape))] sz) := by
  refine rw_metv (by decide) (Nat.le_of_ble_eq_true rfl) (lv0 := [(0, .ref ((a_t 0)))]) rfl ?_
  intro p e s m args below meth c ls Q A cx hret hG hAb hb0 hA hP hD hl
  have hx := cx.1
  have hb := cx.2.1
  have hG0 := hG
  have hGk : ∀ {H : Heap} {locs : List Loc}, va_S A s.heap H locs → GE g s H := fun hS => hG0.keptS hAb hS
  have hSb : ∀ {H : Heap} {locs : List Loc}, va_S A s.heap H locs → va_S (fun a => g.1 ≤ a) s.heap H locs := fun hS => ⟨hS.1, fun q h1 h2 => hS.2.1 q h1 (fun z => h2 (hAb q z)), fun l hl => hAb _ (hS.2.2 l hl)⟩
  have hS : va_S A s.heap s.heap [] := va_S.rf
  have hrt : ∀ (u : Nat → Nat) (pc : Nat) (ls : Array Slot) (x_t_at : Int32) (x_t_begin : Int32) (x_t_token : Int32) (x_t_value : Int32) (H : Heap) (locs : List Loc), decode cX8_next pc = .ok (.return_, 1) → some (x_t_at, x_t_begin, x_t_token, x_t_value) = some (o_t_at, o_t_begin, o_t_token, o_t_value) → va_P g.2.1 vwCl [((a_t 0), .inr (7, [.ref (a_t 1), .ref (a_t 2), .int t_acted, .ref (a_t 4), .ref (a_t 5), .ref (a_t 6), .ref (a_t 7), .ref (a_t 8), .ref (a_t 9), .int t_taped, .int t_faultKind, .int t_faultPlace, .int x_t_at, .int x_t_begin, .int x_t_token, .int x_t_value, .int t_bad, .ref (a_t 18), .ref (a_t 19), .ref (a_t 20), .int t_wide, .int t_lost, .ref (a_t 23), .long t_det, .ref (a_t 25), .int t_mask, .int t_mode, .int t_wanted, .int t_orders, .int t_foundAt, .long t_foundBy, .ref (a_t 32), .ref (a_t 33), .int t_unlikes, .ref (a_t 35), .ref (a_t 36)])), ((a_t 9), .inl (g.2.2.1 0, 600, .inl t_tape))] H → va_D A [((a_t 0), .inr (7, [.ref (a_t 1), .ref (a_t 2), .int t_acted, .ref (a_t 4), .ref (a_t 5), .ref (a_t 6), .ref (a_t 7), .ref (a_t 8), .ref (a_t 9), .int t_taped, .int t_faultKind, .int t_faultPlace, .int x_t_at, .int x_t_begin, .int x_t_token, .int x_t_value, .int t_bad, .ref (a_t 18), .ref (a_t 19), .ref (a_t 20), .int t_wide, .int t_lost, .ref (a_t 23), .long t_det, .ref (a_t 25), .int t_mask, .int t_mode, .int t_wanted, .int t_orders, .int t_foundAt, .long t_foundBy, .ref (a_t 32), .ref (a_t 33), .int t_unlikes, .ref (a_t 35), .ref (a_t 36)])), ((a_t 9), .inl (g.2.2.1 0, 600, .inl t_tape))] → va_S A s.heap H locs → W p l e ⟨2, 0, 0, 47⟩ s m args below meth c H locs 0 0 Q (F0 m pc ls []) := by
    intro u pc ls x_t_at x_t_begin x_t_token x_t_value H locs hd h hP hD hS
    cases h
    exact hret u _ _ _ _ hd hP hD hS
  have w22 : ∀ (k0 : (Nat → Int32) → Int32 → Int32 → Int32 → Int32 → Int32 → Option (Int32 × Int32 × Int32 × Int32)) (hk0 : ∀ (t_at : Int32) (t_begin : Int32) (t_token : Int32) (t_value : Int32) (H : Heap) (locs : List Loc), va_P g.2.1 vwCl [((a_t 0), .inr (7, [.ref (a_t 1), .ref (a_t 2), .int t_acted, .ref (a_t 4), .ref (a_t 5), .ref (a_t 6), .ref (a_t 7), .ref (a_t 8), .ref (a_t 9), .int t_taped, .int t_faultKind, .int t_faultPlace, .int t_at, .int t_begin, .int t_token, .int t_value, .int t_bad, .ref (a_t 18), .ref (a_t 19), .ref (a_t 20), .int t_wide, .int t_lost, .ref (a_t 23), .long t_det, .ref (a_t 25), .int t_mask, .int t_mode, .int t_wanted, .int t_orders, .int t_foundAt, .long t_foundBy, .ref (a_t 32), .ref (a_t 33), .int t_unlikes, .ref (a_t 35), .ref (a_t 36)])), ((a_t 9), .inl (g.2.2.1 0, 600, .inl t_tape))] H → va_D A [((a_t 0), .inr (7, [.ref (a_t 1), .ref (a_t 2), .int t_acted, .ref (a_t 4), .ref (a_t 5), .ref (a_t 6), .ref (a_t 7), .ref (a_t 8), .ref (a_t 9), .int t_taped, .int t_faultKind, .int t_faultPlace, .int t_at, .int t_begin, .int t_token, .int t_value, .int t_bad, .ref (a_t 18), .ref (a_t 19), .ref (a_t 20), .int t_wide, .int t_lost, .ref (a_t 23), .long t_det, .ref (a_t 25), .int t_mask, .int t_mode, .int t_wanted, .int t_orders, .int t_foundAt, .long t_foundBy, .ref (a_t 32), .ref (a_t 33), .int t_unlikes, .ref (a_t 35), .ref (a_t 36)])), ((a_t 9), .inl (g.2.2.1 0, 600, .inl t_tape))] → va_S A s.heap H locs → ∀ (ls : Array Slot), lv_has ls 1 [(0, .ref ((a_t 0)))] → k0 t_tape t_taped t_at t_begin t_token t_value = some (o_t_at, o_t_begin, o_t_token, o_t_value) → W p l e ⟨2, 0, 0, 47⟩ s m args below meth c H locs 0 0 Q (F0 m 0 ls [])) (t_at : Int32) (t_begin : Int32) (t_token : Int32) (t_value : Int32) (H : Heap) (locs : List Loc), va_P g.2.1 vwCl [((a_t 0), .inr (7, [.ref (a_t 1), .ref (a_t 2), .int t_acted, .ref (a_t 4), .ref (a_t 5), .ref (a_t 6), .ref (a_t 7), .ref (a_t 8), .ref (a_t 9), .int t_taped, .int t_faultKind, .int t_faultPlace, .int t_at, .int t_begin, .int t_token, .int t_value, .int t_bad, .ref (a_t 18), .ref (a_t 19), .ref (a_t 20), .int t_wide, .int t_lost, .ref (a_t 23), .long t_det, .ref (a_t 25), .int t_mask, .int t_mode, .int t_wanted, .int t_orders, .int t_foundAt, .long t_foundBy, .ref (a_t 32), .ref (a_t 33), .int t_unlikes, .ref (a_t 35), .ref (a_t 36)])), ((a_t 9), .inl (g.2.2.1 0, 600, .inl t_tape))] H → va_D A [((a_t 0), .inr (7, [.ref (a_t 1), .ref (a_t 2), .int t_acted, .ref (a_t 4), .ref (a_t 5), .ref (a_t 6), .ref (a_t 7), .ref (a_t 8), .ref (a_t 9), .int t_taped, .int t_faultKind, .int t_faultPlace, .int t_at, .int t_begin, .int t_token, .int t_value, .int t_bad, .ref (a_t 18), .ref (a_t 19), .ref (a_t 20), .int t_wide, .int t_lost, .ref (a_t 23), .long t_det, .ref (a_t 25), .int t_mask, .int t_mode, .int t_wanted, .int t_orders, .int t_foundAt, .long t_foundBy, .ref (a_t 32), .ref (a_t 33), .int t_unlikes, .ref (a_t 35), .ref (a_t 36)])), ((a_t 9), .inl (g.2.2.1 0, 600, .inl t_tape))] → va_S A s.heap H locs → ∀ (ls : Array Slot), lv_has ls 1 [(0, .ref ((a_t 0)))] → fX8_next_22 k0 t_tape t_taped t_at t_begin t_token t_value = some (o_t_at, o_t_begin, o_t_token, o_t_value) → W p l e ⟨2, 0, 0, 47⟩ s m args below meth c H locs 0 0 Q (F0 m 22 ls []) := by
    intro k0 hk0 t_at t_begin t_token t_value H locs hP hD hS ls hl h
    unfold fX8_next_22 at h
    have hG := hGk hS
    refine lv_aload_n hx hb dX8_next_22 rfl (lv_at hl 0 rfl) ?_
    refine lv_dup hx hb dX8_next_23 rfl ?_
    refine xa_get (C := RX8) (T := TX8) (N := 36) cx hG hP 0 rfl rfl uX8 12 (by decide) lf_X8_87 rfl dX8_next_24 ?_
    refine lv_iconst (v := 1) hx hb dX8_next_27 (by decide) ?_
    refine lv_iadd hx hb dX8_next_28 ?_
    refine xw_put (C := RX8) (T := TX8) (N := 36) (ty := .int) (v := .int (t_at + 1)) (ws' := [((a_t 0), .inr (7, [.ref (a_t 1), .ref (a_t 2), .int t_acted, .ref (a_t 4), .ref (a_t 5), .ref (a_t 6), .ref (a_t 7), .ref (a_t 8), .ref (a_t 9), .int t_taped, .int t_faultKind, .int t_faultPlace, .int (t_at + 1), .int t_begin, .int t_token, .int t_value, .int t_bad, .ref (a_t 18), .ref (a_t 19), .ref (a_t 20), .int t_wide, .int t_lost, .ref (a_t 23), .long t_det, .ref (a_t 25), .int t_mask, .int t_mode, .int t_wanted, .int t_orders, .int t_foundAt, .long t_foundBy, .ref (a_t 32), .ref (a_t 33), .int t_unlikes, .ref (a_t 35), .ref (a_t 36)])), ((a_t 9), .inl (g.2.2.1 0, 600, .inl t_tape))]) cx hG hP hD hS 0 rfl rfl uX8 tyX8 tyX8_ok nmX8 12 (by decide) lf_X8_87 rfl (by decide +kernel) rfl rfl (Nat.le_of_ble_eq_true rfl) rfl dX8_next_29 (fun H locs hP hD hS => ?_)
    have hG := hGk hS
    refine lv_goto (tgt := 0) hx hb dX8_next_32 (by decide) ?_
    exact hk0 (t_at + 1) t_begin t_token t_value _ _ hP hD hS _ (lv_sub hl [0] rfl) h
  have w83 : ∀ (n : Nat) (t_at : Int32) (t_begin : Int32) (t_token : Int32) (t_value : Int32) (H : Heap) (locs : List Loc), va_P g.2.1 vwCl [((a_t 0), .inr (7, [.ref (a_t 1), .ref (a_t 2), .int t_acted, .ref (a_t 4), .ref (a_t 5), .ref (a_t 6), .ref (a_t 7), .ref (a_t 8), .ref (a_t 9), .int t_taped, .int t_faultKind, .int t_faultPlace, .int t_at, .int t_begin, .int t_token, .int t_value, .int t_bad, .ref (a_t 18), .ref (a_t 19), .ref (a_t 20), .int t_wide, .int t_lost, .ref (a_t 23), .long t_det, .ref (a_t 25), .int t_mask, .int t_mode, .int t_wanted, .int t_orders, .int t_foundAt, .long t_foundBy, .ref (a_t 32), .ref (a_t 33), .int t_unlikes, .ref (a_t 35), .ref (a_t 36)])), ((a_t 9), .inl (g.2.2.1 0, 600, .inl t_tape))] H → va_D A [((a_t 0), .inr (7, [.ref (a_t 1), .ref (a_t 2), .int t_acted, .ref (a_t 4), .ref (a_t 5), .ref (a_t 6), .ref (a_t 7), .ref (a_t 8), .ref (a_t 9), .int t_taped, .int t_faultKind, .int t_faultPlace, .int t_at, .int t_begin, .int t_token, .int t_value, .int t_bad, .ref (a_t 18), .ref (a_t 19), .ref (a_t 20), .int t_wide, .int t_lost, .ref (a_t 23), .long t_det, .ref (a_t 25), .int t_mask, .int t_mode, .int t_wanted, .int t_orders, .int t_foundAt, .long t_foundBy, .ref (a_t 32), .ref (a_t 33), .int t_unlikes, .ref (a_t 35), .ref (a_t 36)])), ((a_t 9), .inl (g.2.2.1 0, 600, .inl t_tape))] → va_S A s.heap H locs → ∀ (ls : Array Slot), lv_has ls 1 [(0, .ref ((a_t 0)))] → fX8_next_83  n t_tape t_taped t_at t_begin t_token t_value = some (o_t_at, o_t_begin, o_t_token, o_t_value) → W p l e ⟨2, 0, 0, 47⟩ s m args below meth c H locs 0 0 Q (F0 m 83 ls []) := by
    intro n
    induction n with
    | zero => intro t_at t_begin t_token t_value H locs hP hD hS ls hl h; cases (fX8_next_83_z  t_tape t_taped t_at t_begin t_token t_value).symm.trans h
    | succ n ih =>
    intro t_at t_begin t_token t_value H locs hP hD hS ls hl h
    have h := (fX8_next_83_s  n t_tape t_taped t_at t_begin t_token t_value).symm.trans h
    have hG := hGk hS
    refine lv_aload_n hx hb dX8_next_83 rfl (lv_at hl 0 rfl) ?_
    refine lv_bipush (v := 97) hx hb dX8_next_84 (by decide) ?_
    refine lv_bipush (v := 122) hx hb dX8_next_86 (by decide) ?_
    obtain ⟨r22, hr23, h⟩ := bnd h
    refine ro_z (runV (As := [.int (97), .int (122)]) (rest := []) cx hl.1 (ctX8_isAt l g a_t t_acted t_taped t_faultKind t_faultPlace t_at t_begin t_token t_value t_bad t_wide t_lost t_det t_mask t_mode t_wanted t_orders t_foundAt t_foundBy t_unlikes t_tape (97) (122) r22 hr23) kmX8_isAt kvX8_isAt lm_X8_90 ⟨rfl, rfl⟩ ⟨Nat.le_of_ble_eq_true rfl, Nat.le_of_ble_eq_true rfl⟩ (roV (q0 := 0) (ci := 7) hG (hP.sub [0, 1] rfl) hP rfl rfl) rfl rfl (Nat.le_of_ble_eq_true rfl) dX8_next_88 ⟨Nat.le_of_ble_eq_true rfl, Nat.le_of_ble_eq_true rfl⟩) (fun hz24 => ?_)
    refine lv_if_eq (tgt := 206) hx hb dX8_next_91 (by decide) (fun c25 => ?_) (fun c25 => ?_)
    · have h := itp c25 h
      exact hrt (fun _ => 0) _ _ t_at t_begin t_token t_value _ _ dX8_next_206 h (hP.sub [0, 1] rfl) (hD.sub [0, 1] (by decide) rfl) hS
    · have h := itn c25 h
      refine lv_aload_n hx hb dX8_next_94 rfl (lv_at hl 0 rfl) ?_
      refine lv_dup hx hb dX8_next_95 rfl ?_
      refine xa_get (C := RX8) (T := TX8) (N := 36) cx hG hP 0 rfl rfl uX8 12 (by decide) lf_X8_87 rfl dX8_next_96 ?_
      refine lv_iconst (v := 1) hx hb dX8_next_99 (by decide) ?_
      refine lv_iadd hx hb dX8_next_100 ?_
      refine xw_put (C := RX8) (T := TX8) (N := 36) (ty := .int) (v := .int (t_at + 1)) (ws' := [((a_t 0), .inr (7, [.ref (a_t 1), .ref (a_t 2), .int t_acted, .ref (a_t 4), .ref (a_t 5), .ref (a_t 6), .ref (a_t 7), .ref (a_t 8), .ref (a_t 9), .int t_taped, .int t_faultKind, .int t_faultPlace, .int (t_at + 1), .int t_begin, .int t_token, .int t_value, .int t_bad, .ref (a_t 18), .ref (a_t 19), .ref (a_t 20), .int t_wide, .int t_lost, .ref (a_t 23), .long t_det, .ref (a_t 25), .int t_mask, .int t_mode, .int t_wanted, .int t_orders, .int t_foundAt, .long t_foundBy, .ref (a_t 32), .ref (a_t 33), .int t_unlikes, .ref (a_t 35), .ref (a_t 36)])), ((a_t 9), .inl (g.2.2.1 0, 600, .inl t_tape))]) cx hG hP hD hS 0 rfl rfl uX8 tyX8 tyX8_ok nmX8 12 (by decide) lf_X8_87 rfl (by decide +kernel) rfl rfl (Nat.le_of_ble_eq_true rfl) rfl dX8_next_101 (fun H locs hP hD hS => ?_)
      have hG := hGk hS
      refine lv_goto (tgt := 83) hx hb dX8_next_104 (by decide) ?_
      exact ih (t_at + 1) t_begin t_token t_value _ _ hP hD hS _ (lv_sub hl [0] rfl) h
  have w123 : ∀ (n : Nat) (t_at : Int32) (t_begin : Int32) (t_token : Int32) (t_value : Int32) (H : Heap) (locs : List Loc), va_P g.2.1 vwCl [((a_t 0), .inr (7, [.ref (a_t 1), .ref (a_t 2), .int t_acted, .ref (a_t 4), .ref (a_t 5), .ref (a_t 6), .ref (a_t 7), .ref (a_t 8), .ref (a_t 9), .int t_taped, .int t_faultKind, .int t_faultPlace, .int t_at, .int t_begin, .int t_token, .int t_value, .int t_bad, .ref (a_t 18), .ref (a_t 19), .ref (a_t 20), .int t_wide, .int t_lost, .ref (a_t 23), .long t_det, .ref (a_t 25), .int t_mask, .int t_mode, .int t_wanted, .int t_orders, .int t_foundAt, .long t_foundBy, .ref (a_t 32), .ref (a_t 33), .int t_unlikes, .ref (a_t 35), .ref (a_t 36)])), ((a_t 9), .inl (g.2.2.1 0, 600, .inl t_tape))] H → va_D A [((a_t 0), .inr (7, [.ref (a_t 1), .ref (a_t 2), .int t_acted, .ref (a_t 4), .ref (a_t 5), .ref (a_t 6), .ref (a_t 7), .ref (a_t 8), .ref (a_t 9), .int t_taped, .int t_faultKind, .int t_faultPlace, .int t_at, .int t_begin, .int t_token, .int t_value, .int t_bad, .ref (a_t 18), .ref (a_t 19), .ref (a_t 20), .int t_wide, .int t_lost, .ref (a_t 23), .long t_det, .ref (a_t 25), .int t_mask, .int t_mode, .int t_wanted, .int t_orders, .int t_foundAt, .long t_foundBy, .ref (a_t 32), .ref (a_t 33), .int t_unlikes, .ref (a_t 35), .ref (a_t 36)])), ((a_t 9), .inl (g.2.2.1 0, 600, .inl t_tape))] → va_S A s.heap H locs → ∀ (ls : Array Slot), lv_has ls 1 [(0, .ref ((a_t 0)))] → fX8_next_123  n t_tape t_taped t_at t_begin t_token t_value = some (o_t_at, o_t_begin, o_t_token, o_t_value) → W p l e ⟨2, 0, 0, 47⟩ s m args below meth c H locs 0 0 Q (F0 m 123 ls []) := by
    intro n
    induction n with
    | zero => intro t_at t_begin t_token t_value H locs hP hD hS ls hl h; cases (fX8_next_123_z  t_tape t_taped t_at t_begin t_token t_value).symm.trans h
    | succ n ih =>
    intro t_at t_begin t_token t_value H locs hP hD hS ls hl h
    have h := (fX8_next_123_s  n t_tape t_taped t_at t_begin t_token t_value).symm.trans h
    have hG := hGk hS
    refine lv_aload_n hx hb dX8_next_123 rfl (lv_at hl 0 rfl) ?_
    refine lv_bipush (v := 48) hx hb dX8_next_124 (by decide) ?_
    refine lv_bipush (v := 57) hx hb dX8_next_126 (by decide) ?_
    obtain ⟨r26, hr27, h⟩ := bnd h
    refine ro_z (runV (As := [.int (48), .int (57)]) (rest := []) cx hl.1 (ctX8_isAt l g a_t t_acted t_taped t_faultKind t_faultPlace t_at t_begin t_token t_value t_bad t_wide t_lost t_det t_mask t_mode t_wanted t_orders t_foundAt t_foundBy t_unlikes t_tape (48) (57) r26 hr27) kmX8_isAt kvX8_isAt lm_X8_90 ⟨rfl, rfl⟩ ⟨Nat.le_of_ble_eq_true rfl, Nat.le_of_ble_eq_true rfl⟩ (roV (q0 := 0) (ci := 7) hG (hP.sub [0, 1] rfl) hP rfl rfl) rfl rfl (Nat.le_of_ble_eq_true rfl) dX8_next_128 ⟨Nat.le_of_ble_eq_true rfl, Nat.le_of_ble_eq_true rfl⟩) (fun hz28 => ?_)
    refine lv_if_eq (tgt := 206) hx hb dX8_next_131 (by decide) (fun c29 => ?_) (fun c29 => ?_)
    · have h := itp c29 h
      exact hrt (fun _ => 0) _ _ t_at t_begin t_token t_value _ _ dX8_next_206 h (hP.sub [0, 1] rfl) (hD.sub [0, 1] (by decide) rfl) hS
    · have h := itn c29 h
      refine lv_aload_n hx hb dX8_next_134 rfl (lv_at hl 0 rfl) ?_
      refine lv_ldc (own := RX8) (v := 99999) hx hb cx.2.2.2.1 (cx.2.2.2.2 _ ci_X8_103) dX8_next_135 ?_
      refine lv_bipush (v := 10) hx hb dX8_next_137 (by decide) ?_
      refine lv_aload_n hx hb dX8_next_139 rfl (lv_at hl 0 rfl) ?_
      refine xa_get (C := RX8) (T := TX8) (N := 36) cx hG hP 0 rfl rfl uX8 15 (by decide) lf_X8_97 rfl dX8_next_140 ?_
      refine lv_imul hx hb dX8_next_143 ?_
      refine lv_aload_n hx hb dX8_next_144 rfl (lv_at hl 0 rfl) ?_
      refine xa_get (C := RX8) (T := TX8) (N := 36) cx hG hP 0 rfl rfl uX8 8 (by decide) lf_X8_44 rfl dX8_next_145 ?_
      refine lv_aload_n hx hb dX8_next_148 rfl (lv_at hl 0 rfl) ?_
      refine xa_get (C := RX8) (T := TX8) (N := 36) cx hG hP 0 rfl rfl uX8 12 (by decide) lf_X8_87 rfl dX8_next_149 ?_
      obtain ⟨hi30, h⟩ := chk_out h
      refine xa_iald cx hG hP 1 rfl hi30 rfl dX8_next_152 ?_
      refine lv_iadd hx hb dX8_next_153 ?_
      refine lv_bipush (v := 48) hx hb dX8_next_154 (by decide) ?_
      refine lv_isub hx hb dX8_next_156 ?_
      refine xm_imin cx hl.1 lm_X8_104 ⟨ksJ9_min_7cf53, kmJ9_min_7cf53.2.1, kmJ9_min_7cf53.1⟩ (Nat.le_of_ble_eq_true rfl) (Nat.le_of_ble_eq_true rfl) (Nat.le_of_ble_eq_true rfl) (Nat.le_of_ble_eq_true rfl) dX8_next_157 ?_
      refine xw_put (C := RX8) (T := TX8) (N := 36) (ty := .int) (v := .int (imin 99999 (((10 * t_value) + (t_tape t_at.toNatClampNeg)) - 48))) (ws' := [((a_t 0), .inr (7, [.ref (a_t 1), .ref (a_t 2), .int t_acted, .ref (a_t 4), .ref (a_t 5), .ref (a_t 6), .ref (a_t 7), .ref (a_t 8), .ref (a_t 9), .int t_taped, .int t_faultKind, .int t_faultPlace, .int t_at, .int t_begin, .int t_token, .int (imin 99999 (((10 * t_value) + (t_tape t_at.toNatClampNeg)) - 48)), .int t_bad, .ref (a_t 18), .ref (a_t 19), .ref (a_t 20), .int t_wide, .int t_lost, .ref (a_t 23), .long t_det, .ref (a_t 25), .int t_mask, .int t_mode, .int t_wanted, .int t_orders, .int t_foundAt, .long t_foundBy, .ref (a_t 32), .ref (a_t 33), .int t_unlikes, .ref (a_t 35), .ref (a_t 36)])), ((a_t 9), .inl (g.2.2.1 0, 600, .inl t_tape))]) cx hG hP hD hS 0 rfl rfl uX8 tyX8 tyX8_ok nmX8 15 (by decide) lf_X8_97 rfl (by decide +kernel) rfl rfl (Nat.le_of_ble_eq_true rfl) rfl dX8_next_160 (fun H locs hP hD hS => ?_)
      have hG := hGk hS
      refine lv_aload_n hx hb dX8_next_163 rfl (lv_at hl 0 rfl) ?_
      refine lv_dup hx hb dX8_next_164 rfl ?_
      refine xa_get (C := RX8) (T := TX8) (N := 36) cx hG hP 0 rfl rfl uX8 12 (by decide) lf_X8_87 rfl dX8_next_165 ?_
      refine lv_iconst (v := 1) hx hb dX8_next_168 (by decide) ?_
      refine lv_iadd hx hb dX8_next_169 ?_
      refine xw_put (C := RX8) (T := TX8) (N := 36) (ty := .int) (v := .int (t_at + 1)) (ws' := [((a_t 0), .inr (7, [.ref (a_t 1), .ref (a_t 2), .int t_acted, .ref (a_t 4), .ref (a_t 5), .ref (a_t 6), .ref (a_t 7), .ref (a_t 8), .ref (a_t 9), .int t_taped, .int t_faultKind, .int t_faultPlace, .int (t_at + 1), .int t_begin, .int t_token, .int (imin 99999 (((10 * t_value) + (t_tape t_at.toNatClampNeg)) - 48)), .int t_bad, .ref (a_t 18), .ref (a_t 19), .ref (a_t 20), .int t_wide, .int t_lost, .ref (a_t 23), .long t_det, .ref (a_t 25), .int t_mask, .int t_mode, .int t_wanted, .int t_orders, .int t_foundAt, .long t_foundBy, .ref (a_t 32), .ref (a_t 33), .int t_unlikes, .ref (a_t 35), .ref (a_t 36)])), ((a_t 9), .inl (g.2.2.1 0, 600, .inl t_tape))]) cx hG hP hD hS 0 rfl rfl uX8 tyX8 tyX8_ok nmX8 12 (by decide) lf_X8_87 rfl (by decide +kernel) rfl rfl (Nat.le_of_ble_eq_true rfl) rfl dX8_next_170 (fun H locs hP hD hS => ?_)
      have hG := hGk hS
      refine lv_goto (tgt := 123) hx hb dX8_next_173 (by decide) ?_
      exact ih (t_at + 1) t_begin t_token (imin 99999 (((10 * t_value) + (t_tape t_at.toNatClampNeg)) - 48)) _ _ hP hD hS _ (lv_sub hl [0] rfl) h
  have w35 : ∀ (t_at : Int32) (t_begin : Int32) (t_token : Int32) (t_value : Int32) (H : Heap) (locs : List Loc), va_P g.2.1 vwCl [((a_t 0), .inr (7, [.ref (a_t 1), .ref (a_t 2), .int t_acted, .ref (a_t 4), .ref (a_t 5), .ref (a_t 6), .ref (a_t 7), .ref (a_t 8), .ref (a_t 9), .int t_taped, .int t_faultKind, .int t_faultPlace, .int t_at, .int t_begin, .int t_token, .int t_value, .int t_bad, .ref (a_t 18), .ref (a_t 19), .ref (a_t 20), .int t_wide, .int t_lost, .ref (a_t 23), .long t_det, .ref (a_t 25), .int t_mask, .int t_mode, .int t_wanted, .int t_orders, .int t_foundAt, .long t_foundBy, .ref (a_t 32), .ref (a_t 33), .int t_unlikes, .ref (a_t 35), .ref (a_t 36)])), ((a_t 9), .inl (g.2.2.1 0, 600, .inl t_tape))] H → va_D A [((a_t 0), .inr (7, [.ref (a_t 1), .ref (a_t 2), .int t_acted, .ref (a_t 4), .ref (a_t 5), .ref (a_t 6), .ref (a_t 7), .ref (a_t 8), .ref (a_t 9), .int t_taped, .int t_faultKind, .int t_faultPlace, .int t_at, .int t_begin, .int t_token, .int t_value, .int t_bad, .ref (a_t 18), .ref (a_t 19), .ref (a_t 20), .int t_wide, .int t_lost, .ref (a_t 23), .long t_det, .ref (a_t 25), .int t_mask, .int t_mode, .int t_wanted, .int t_orders, .int t_foundAt, .long t_foundBy, .ref (a_t 32), .ref (a_t 33), .int t_unlikes, .ref (a_t 35), .ref (a_t 36)])), ((a_t 9), .inl (g.2.2.1 0, 600, .inl t_tape))] → va_S A s.heap H locs → ∀ (ls : Array Slot), lv_has ls 1 [(0, .ref ((a_t 0)))] → fX8_next_35  t_tape t_taped t_at t_begin t_token t_value = some (o_t_at, o_t_begin, o_t_token, o_t_value) → W p l e ⟨2, 0, 0, 47⟩ s m args below meth c H locs 0 0 Q (F0 m 35 ls []) := by
    intro t_at t_begin t_token t_value H locs hP hD hS ls hl h
    unfold fX8_next_35 at h
    have hG := hGk hS
    refine lv_aload_n hx hb dX8_next_35 rfl (lv_at hl 0 rfl) ?_
    refine lv_aload_n hx hb dX8_next_36 rfl (lv_at hl 0 rfl) ?_
    refine xa_get (C := RX8) (T := TX8) (N := 36) cx hG hP 0 rfl rfl uX8 12 (by decide) lf_X8_87 rfl dX8_next_37 ?_
    refine xw_put (C := RX8) (T := TX8) (N := 36) (ty := .int) (v := .int t_at) (ws' := [((a_t 0), .inr (7, [.ref (a_t 1), .ref (a_t 2), .int t_acted, .ref (a_t 4), .ref (a_t 5), .ref (a_t 6), .ref (a_t 7), .ref (a_t 8), .ref (a_t 9), .int t_taped, .int t_faultKind, .int t_faultPlace, .int t_at, .int t_at, .int t_token, .int t_value, .int t_bad, .ref (a_t 18), .ref (a_t 19), .ref (a_t 20), .int t_wide, .int t_lost, .ref (a_t 23), .long t_det, .ref (a_t 25), .int t_mask, .int t_mode, .int t_wanted, .int t_orders, .int t_foundAt, .long t_foundBy, .ref (a_t 32), .ref (a_t 33), .int t_unlikes, .ref (a_t 35), .ref (a_t 36)])), ((a_t 9), .inl (g.2.2.1 0, 600, .inl t_tape))]) cx hG hP hD hS 0 rfl rfl uX8 tyX8 tyX8_ok nmX8 13 (by decide) lf_X8_94 rfl (by decide +kernel) rfl rfl (Nat.le_of_ble_eq_true rfl) rfl dX8_next_40 (fun H locs hP hD hS => ?_)
    have hG := hGk hS
    refine lv_aload_n hx hb dX8_next_43 rfl (lv_at hl 0 rfl) ?_
    refine lv_iconst (v := 0) hx hb dX8_next_44 (by decide) ?_
    refine xw_put (C := RX8) (T := TX8) (N := 36) (ty := .int) (v := .int (0)) (ws' := [((a_t 0), .inr (7, [.ref (a_t 1), .ref (a_t 2), .int t_acted, .ref (a_t 4), .ref (a_t 5), .ref (a_t 6), .ref (a_t 7), .ref (a_t 8), .ref (a_t 9), .int t_taped, .int t_faultKind, .int t_faultPlace, .int t_at, .int t_at, .int t_token, .int 0, .int t_bad, .ref (a_t 18), .ref (a_t 19), .ref (a_t 20), .int t_wide, .int t_lost, .ref (a_t 23), .long t_det, .ref (a_t 25), .int t_mask, .int t_mode, .int t_wanted, .int t_orders, .int t_foundAt, .long t_foundBy, .ref (a_t 32), .ref (a_t 33), .int t_unlikes, .ref (a_t 35), .ref (a_t 36)])), ((a_t 9), .inl (g.2.2.1 0, 600, .inl t_tape))]) cx hG hP hD hS 0 rfl rfl uX8 tyX8 tyX8_ok nmX8 15 (by decide) lf_X8_97 rfl (by decide +kernel) rfl rfl (Nat.le_of_ble_eq_true rfl) rfl dX8_next_45 (fun H locs hP hD hS => ?_)
    have hG := hGk hS
    refine lv_aload_n hx hb dX8_next_48 rfl (lv_at hl 0 rfl) ?_
    refine xa_get (C := RX8) (T := TX8) (N := 36) cx hG hP 0 rfl rfl uX8 12 (by decide) lf_X8_87 rfl dX8_next_49 ?_
    refine lv_aload_n hx hb dX8_next_52 rfl (lv_at hl 0 rfl) ?_
    refine xa_get (C := RX8) (T := TX8) (N := 36) cx hG hP 0 rfl rfl uX8 9 (by decide) lf_X8_80 rfl dX8_next_53 ?_
    refine lv_icmp_ne (tgt := 67) hx hb dX8_next_56 (by decide) (fun c9 => ?_) (fun c9 => ?_)
    · have h := itn c9 h
      refine lv_aload_n hx hb dX8_next_67 rfl (lv_at hl 0 rfl) ?_
      refine lv_bipush (v := 97) hx hb dX8_next_68 (by decide) ?_
      refine lv_bipush (v := 122) hx hb dX8_next_70 (by decide) ?_
      obtain ⟨r10, hr11, h⟩ := bnd h
      refine ro_z (runV (As := [.int (97), .int (122)]) (rest := []) cx hl.1 (ctX8_isAt l g a_t t_acted t_taped t_faultKind t_faultPlace t_at t_at t_token (0) t_bad t_wide t_lost t_det t_mask t_mode t_wanted t_orders t_foundAt t_foundBy t_unlikes t_tape (97) (122) r10 hr11) kmX8_isAt kvX8_isAt lm_X8_90 ⟨rfl, rfl⟩ ⟨Nat.le_of_ble_eq_true rfl, Nat.le_of_ble_eq_true rfl⟩ (roV (q0 := 0) (ci := 7) hG (hP.sub [0, 1] rfl) hP rfl rfl) rfl rfl (Nat.le_of_ble_eq_true rfl) dX8_next_72 ⟨Nat.le_of_ble_eq_true rfl, Nat.le_of_ble_eq_true rfl⟩) (fun hz12 => ?_)
      refine lv_if_eq (tgt := 107) hx hb dX8_next_75 (by decide) (fun c13 => ?_) (fun c13 => ?_)
      · have h := itp c13 h
        refine lv_aload_n hx hb dX8_next_107 rfl (lv_at hl 0 rfl) ?_
        refine lv_bipush (v := 48) hx hb dX8_next_108 (by decide) ?_
        refine lv_bipush (v := 57) hx hb dX8_next_110 (by decide) ?_
        obtain ⟨r14, hr15, h⟩ := bnd h
        refine ro_z (runV (As := [.int (48), .int (57)]) (rest := []) cx hl.1 (ctX8_isAt l g a_t t_acted t_taped t_faultKind t_faultPlace t_at t_at t_token (0) t_bad t_wide t_lost t_det t_mask t_mode t_wanted t_orders t_foundAt t_foundBy t_unlikes t_tape (48) (57) r14 hr15) kmX8_isAt kvX8_isAt lm_X8_90 ⟨rfl, rfl⟩ ⟨Nat.le_of_ble_eq_true rfl, Nat.le_of_ble_eq_true rfl⟩ (roV (q0 := 0) (ci := 7) hG (hP.sub [0, 1] rfl) hP rfl rfl) rfl rfl (Nat.le_of_ble_eq_true rfl) dX8_next_112 ⟨Nat.le_of_ble_eq_true rfl, Nat.le_of_ble_eq_true rfl⟩) (fun hz16 => ?_)
        refine lv_if_eq (tgt := 176) hx hb dX8_next_115 (by decide) (fun c17 => ?_) (fun c17 => ?_)
        · have h := itp c17 h
          refine lv_aload_n hx hb dX8_next_176 rfl (lv_at hl 0 rfl) ?_
          refine lv_aload_n hx hb dX8_next_177 rfl (lv_at hl 0 rfl) ?_
          refine lv_bipush (v := 59) hx hb dX8_next_178 (by decide) ?_
          refine lv_bipush (v := 59) hx hb dX8_next_180 (by decide) ?_
          obtain ⟨r18, hr19, h⟩ := bnd h
          refine ro_z (runV (As := [.int (59), .int (59)]) (rest := [.ref ((a_t 0))]) cx hl.1 (ctX8_isAt l g a_t t_acted t_taped t_faultKind t_faultPlace t_at t_at t_token (0) t_bad t_wide t_lost t_det t_mask t_mode t_wanted t_orders t_foundAt t_foundBy t_unlikes t_tape (59) (59) r18 hr19) kmX8_isAt kvX8_isAt lm_X8_90 ⟨rfl, rfl⟩ ⟨Nat.le_of_ble_eq_true rfl, Nat.le_of_ble_eq_true rfl⟩ (roV (q0 := 0) (ci := 7) hG (hP.sub [0, 1] rfl) hP rfl rfl) rfl rfl (Nat.le_of_ble_eq_true rfl) dX8_next_182 ⟨Nat.le_of_ble_eq_true rfl, Nat.le_of_ble_eq_true rfl⟩) (fun hz20 => ?_)
          refine lv_if_eq (tgt := 192) hx hb dX8_next_185 (by decide) (fun c21 => ?_) (fun c21 => ?_)
          · have h := itp c21 h
            refine lv_iconst (v := 4) hx hb dX8_next_192 (by decide) ?_
            refine xw_put (C := RX8) (T := TX8) (N := 36) (ty := .int) (v := .int (4)) (ws' := [((a_t 0), .inr (7, [.ref (a_t 1), .ref (a_t 2), .int t_acted, .ref (a_t 4), .ref (a_t 5), .ref (a_t 6), .ref (a_t 7), .ref (a_t 8), .ref (a_t 9), .int t_taped, .int t_faultKind, .int t_faultPlace, .int t_at, .int t_at, .int 4, .int 0, .int t_bad, .ref (a_t 18), .ref (a_t 19), .ref (a_t 20), .int t_wide, .int t_lost, .ref (a_t 23), .long t_det, .ref (a_t 25), .int t_mask, .int t_mode, .int t_wanted, .int t_orders, .int t_foundAt, .long t_foundBy, .ref (a_t 32), .ref (a_t 33), .int t_unlikes, .ref (a_t 35), .ref (a_t 36)])), ((a_t 9), .inl (g.2.2.1 0, 600, .inl t_tape))]) cx hG hP hD hS 0 rfl rfl uX8 tyX8 tyX8_ok nmX8 14 (by decide) lf_X8_100 rfl (by decide +kernel) rfl rfl (Nat.le_of_ble_eq_true rfl) rfl dX8_next_193 (fun H locs hP hD hS => ?_)
            have hG := hGk hS
            refine lv_aload_n hx hb dX8_next_196 rfl (lv_at hl 0 rfl) ?_
            refine lv_dup hx hb dX8_next_197 rfl ?_
            refine xa_get (C := RX8) (T := TX8) (N := 36) cx hG hP 0 rfl rfl uX8 12 (by decide) lf_X8_87 rfl dX8_next_198 ?_
            refine lv_iconst (v := 1) hx hb dX8_next_201 (by decide) ?_
            refine lv_iadd hx hb dX8_next_202 ?_
            refine xw_put (C := RX8) (T := TX8) (N := 36) (ty := .int) (v := .int (t_at + 1)) (ws' := [((a_t 0), .inr (7, [.ref (a_t 1), .ref (a_t 2), .int t_acted, .ref (a_t 4), .ref (a_t 5), .ref (a_t 6), .ref (a_t 7), .ref (a_t 8), .ref (a_t 9), .int t_taped, .int t_faultKind, .int t_faultPlace, .int (t_at + 1), .int t_at, .int 4, .int 0, .int t_bad, .ref (a_t 18), .ref (a_t 19), .ref (a_t 20), .int t_wide, .int t_lost, .ref (a_t 23), .long t_det, .ref (a_t 25), .int t_mask, .int t_mode, .int t_wanted, .int t_orders, .int t_foundAt, .long t_foundBy, .ref (a_t 32), .ref (a_t 33), .int t_unlikes, .ref (a_t 35), .ref (a_t 36)])), ((a_t 9), .inl (g.2.2.1 0, 600, .inl t_tape))]) cx hG hP hD hS 0 rfl rfl uX8 tyX8 tyX8_ok nmX8 12 (by decide) lf_X8_87 rfl (by decide +kernel) rfl rfl (Nat.le_of_ble_eq_true rfl) rfl dX8_next_203 (fun H locs hP hD hS => ?_)
            have hG := hGk hS
            exact hrt (fun _ => 0) _ _ (t_at + 1) t_at (4) (0) _ _ dX8_next_206 h (hP.sub [0, 1] rfl) (hD.sub [0, 1] (by decide) rfl) hS
          · have h := itn c21 h
            refine lv_iconst (v := 3) hx hb dX8_next_188 (by decide) ?_
            refine lv_goto (tgt := 193) hx hb dX8_next_189 (by decide) ?_
            refine xw_put (C := RX8) (T := TX8) (N := 36) (ty := .int) (v := .int (3)) (ws' := [((a_t 0), .inr (7, [.ref (a_t 1), .ref (a_t 2), .int t_acted, .ref (a_t 4), .ref (a_t 5), .ref (a_t 6), .ref (a_t 7), .ref (a_t 8), .ref (a_t 9), .int t_taped, .int t_faultKind, .int t_faultPlace, .int t_at, .int t_at, .int 3, .int 0, .int t_bad, .ref (a_t 18), .ref (a_t 19), .ref (a_t 20), .int t_wide, .int t_lost, .ref (a_t 23), .long t_det, .ref (a_t 25), .int t_mask, .int t_mode, .int t_wanted, .int t_orders, .int t_foundAt, .long t_foundBy, .ref (a_t 32), .ref (a_t 33), .int t_unlikes, .ref (a_t 35), .ref (a_t 36)])), ((a_t 9), .inl (g.2.2.1 0, 600, .inl t_tape))]) cx hG hP hD hS 0 rfl rfl uX8 tyX8 tyX8_ok nmX8 14 (by decide) lf_X8_100 rfl (by decide +kernel) rfl rfl (Nat.le_of_ble_eq_true rfl) rfl dX8_next_193 (fun H locs hP hD hS => ?_)
            have hG := hGk hS
            refine lv_aload_n hx hb dX8_next_196 rfl (lv_at hl 0 rfl) ?_
            refine lv_dup hx hb dX8_next_197 rfl ?_
            refine xa_get (C := RX8) (T := TX8) (N := 36) cx hG hP 0 rfl rfl uX8 12 (by decide) lf_X8_87 rfl dX8_next_198 ?_
            refine lv_iconst (v := 1) hx hb dX8_next_201 (by decide) ?_
            refine lv_iadd hx hb dX8_next_202 ?_
            refine xw_put (C := RX8) (T := TX8) (N := 36) (ty := .int) (v := .int (t_at + 1)) (ws' := [((a_t 0), .inr (7, [.ref (a_t 1), .ref (a_t 2), .int t_acted, .ref (a_t 4), .ref (a_t 5), .ref (a_t 6), .ref (a_t 7), .ref (a_t 8), .ref (a_t 9), .int t_taped, .int t_faultKind, .int t_faultPlace, .int (t_at + 1), .int t_at, .int 3, .int 0, .int t_bad, .ref (a_t 18), .ref (a_t 19), .ref (a_t 20), .int t_wide, .int t_lost, .ref (a_t 23), .long t_det, .ref (a_t 25), .int t_mask, .int t_mode, .int t_wanted, .int t_orders, .int t_foundAt, .long t_foundBy, .ref (a_t 32), .ref (a_t 33), .int t_unlikes, .ref (a_t 35), .ref (a_t 36)])), ((a_t 9), .inl (g.2.2.1 0, 600, .inl t_tape))]) cx hG hP hD hS 0 rfl rfl uX8 tyX8 tyX8_ok nmX8 12 (by decide) lf_X8_87 rfl (by decide +kernel) rfl rfl (Nat.le_of_ble_eq_true rfl) rfl dX8_next_203 (fun H locs hP hD hS => ?_)
            have hG := hGk hS
            exact hrt (fun _ => 0) _ _ (t_at + 1) t_at (3) (0) _ _ dX8_next_206 h (hP.sub [0, 1] rfl) (hD.sub [0, 1] (by decide) rfl) hS
        · have h := itn c17 h
          refine lv_aload_n hx hb dX8_next_118 rfl (lv_at hl 0 rfl) ?_
          refine lv_iconst (v := 2) hx hb dX8_next_119 (by decide) ?_
          refine xw_put (C := RX8) (T := TX8) (N := 36) (ty := .int) (v := .int (2)) (ws' := [((a_t 0), .inr (7, [.ref (a_t 1), .ref (a_t 2), .int t_acted, .ref (a_t 4), .ref (a_t 5), .ref (a_t 6), .ref (a_t 7), .ref (a_t 8), .ref (a_t 9), .int t_taped, .int t_faultKind, .int t_faultPlace, .int t_at, .int t_at, .int 2, .int 0, .int t_bad, .ref (a_t 18), .ref (a_t 19), .ref (a_t 20), .int t_wide, .int t_lost, .ref (a_t 23), .long t_det, .ref (a_t 25), .int t_mask, .int t_mode, .int t_wanted, .int t_orders, .int t_foundAt, .long t_foundBy, .ref (a_t 32), .ref (a_t 33), .int t_unlikes, .ref (a_t 35), .ref (a_t 36)])), ((a_t 9), .inl (g.2.2.1 0, 600, .inl t_tape))]) cx hG hP hD hS 0 rfl rfl uX8 tyX8 tyX8_ok nmX8 14 (by decide) lf_X8_100 rfl (by decide +kernel) rfl rfl (Nat.le_of_ble_eq_true rfl) rfl dX8_next_120 (fun H locs hP hD hS => ?_)
          have hG := hGk hS
          exact w123 FU t_at t_at 2 0 _ _ hP hD hS _ (lv_sub hl [0] rfl) h
      · have h := itn c13 h
        refine lv_aload_n hx hb dX8_next_78 rfl (lv_at hl 0 rfl) ?_
        refine lv_iconst (v := 1) hx hb dX8_next_79 (by decide) ?_
        refine xw_put (C := RX8) (T := TX8) (N := 36) (ty := .int) (v := .int (1)) (ws' := [((a_t 0), .inr (7, [.ref (a_t 1), .ref (a_t 2), .int t_acted, .ref (a_t 4), .ref (a_t 5), .ref (a_t 6), .ref (a_t 7), .ref (a_t 8), .ref (a_t 9), .int t_taped, .int t_faultKind, .int t_faultPlace, .int t_at, .int t_at, .int 1, .int 0, .int t_bad, .ref (a_t 18), .ref (a_t 19), .ref (a_t 20), .int t_wide, .int t_lost, .ref (a_t 23), .long t_det, .ref (a_t 25), .int t_mask, .int t_mode, .int t_wanted, .int t_orders, .int t_foundAt, .long t_foundBy, .ref (a_t 32), .ref (a_t 33), .int t_unlikes, .ref (a_t 35), .ref (a_t 36)])), ((a_t 9), .inl (g.2.2.1 0, 600, .inl t_tape))]) cx hG hP hD hS 0 rfl rfl uX8 tyX8 tyX8_ok nmX8 14 (by decide) lf_X8_100 rfl (by decide +kernel) rfl rfl (Nat.le_of_ble_eq_true rfl) rfl dX8_next_80 (fun H locs hP hD hS => ?_)
        have hG := hGk hS
        exact w83 FU t_at t_at 1 0 _ _ hP hD hS _ (lv_sub hl [0] rfl) h
    · have h := itp c9 h
      refine lv_aload_n hx hb dX8_next_59 rfl (lv_at hl 0 rfl) ?_
      refine lv_iconst (v := 0) hx hb dX8_next_60 (by decide) ?_
      refine xw_put (C := RX8) (T := TX8) (N := 36) (ty := .int) (v := .int (0)) (ws' := [((a_t 0), .inr (7, [.ref (a_t 1), .ref (a_t 2), .int t_acted, .ref (a_t 4), .ref (a_t 5), .ref (a_t 6), .ref (a_t 7), .ref (a_t 8), .ref (a_t 9), .int t_taped, .int t_faultKind, .int t_faultPlace, .int t_at, .int t_at, .int 0, .int 0, .int t_bad, .ref (a_t 18), .ref (a_t 19), .ref (a_t 20), .int t_wide, .int t_lost, .ref (a_t 23), .long t_det, .ref (a_t 25), .int t_mask, .int t_mode, .int t_wanted, .int t_orders, .int t_foundAt, .long t_foundBy, .ref (a_t 32), .ref (a_t 33), .int t_unlikes, .ref (a_t 35), .ref (a_t 36)])), ((a_t 9), .inl (g.2.2.1 0, 600, .inl t_tape))]) cx hG hP hD hS 0 rfl rfl uX8 tyX8 tyX8_ok nmX8 14 (by decide) lf_X8_100 rfl (by decide +kernel) rfl rfl (Nat.le_of_ble_eq_true rfl) rfl dX8_next_61 (fun H locs hP hD hS => ?_)
      have hG := hGk hS
      refine lv_goto (tgt := 206) hx hb dX8_next_64 (by decide) ?_
      exact hrt (fun _ => 0) _ _ t_at t_at (0) (0) _ _ dX8_next_206 h (hP.sub [0, 1] rfl) (hD.sub [0, 1] (by decide) rfl) hS
  have w0 : ∀ (n : Nat) (t_at : Int32) (t_begin : Int32) (t_token : Int32) (t_value : Int32) (H : Heap) (locs : List Loc), va_P g.2.1 vwCl [((a_t 0), .inr (7, [.ref (a_t 1), .ref (a_t 2), .int t_acted, .ref (a_t 4), .ref (a_t 5), .ref (a_t 6), .ref (a_t 7), .ref (a_t 8), .ref (a_t 9), .int t_taped, .int t_faultKind, .int t_faultPlace, .int t_at, .int t_begin, .int t_token, .int t_value, .int t_bad, .ref (a_t 18), .ref (a_t 19), .ref (a_t 20), .int t_wide, .int t_lost, .ref (a_t 23), .long t_det, .ref (a_t 25), .int t_mask, .int t_mode, .int t_wanted, .int t_orders, .int t_foundAt, .long t_foundBy, .ref (a_t 32), .ref (a_t 33), .int t_unlikes, .ref (a_t 35), .ref (a_t 36)])), ((a_t 9), .inl (g.2.2.1 0, 600, .inl t_tape))] H → va_D A [((a_t 0), .inr (7, [.ref (a_t 1), .ref (a_t 2), .int t_acted, .ref (a_t 4), .ref (a_t 5), .ref (a_t 6), .ref (a_t 7), .ref (a_t 8), .ref (a_t 9), .int t_taped, .int t_faultKind, .int t_faultPlace, .int t_at, .int t_begin, .int t_token, .int t_value, .int t_bad, .ref (a_t 18), .ref (a_t 19), .ref (a_t 20), .int t_wide, .int t_lost, .ref (a_t 23), .long t_det, .ref (a_t 25), .int t_mask, .int t_mode, .int t_wanted, .int t_orders, .int t_foundAt, .long t_foundBy, .ref (a_t 32), .ref (a_t 33), .int t_unlikes, .ref (a_t 35), .ref (a_t 36)])), ((a_t 9), .inl (g.2.2.1 0, 600, .inl t_tape))] → va_S A s.heap H locs → ∀ (ls : Array Slot), lv_has ls 1 [(0, .ref ((a_t 0)))] → fX8_next_0  n t_tape t_taped t_at t_begin t_token t_value = some (o_t_at, o_t_begin, o_t_token, o_t_value) → W p l e ⟨2, 0, 0, 47⟩ s m args below meth c H locs 0 0 Q (F0 m 0 ls []) := by
    intro n
    induction n with
    | zero => intro t_at t_begin t_token t_value H locs hP hD hS ls hl h; cases (fX8_next_0_z  t_tape t_taped t_at t_begin t_token t_value).symm.trans h
    | succ n ih =>
    intro t_at t_begin t_token t_value H locs hP hD hS ls hl h
    have h := (fX8_next_0_s  n t_tape t_taped t_at t_begin t_token t_value).symm.trans h
    have hG := hGk hS
    refine lv_aload_n hx hb dX8_next_0 rfl (lv_at hl 0 rfl) ?_
    refine lv_bipush (v := 32) hx hb dX8_next_1 (by decide) ?_
    refine lv_bipush (v := 32) hx hb dX8_next_3 (by decide) ?_
    obtain ⟨r1, hr2, h⟩ := bnd h
    refine ro_z (runV (As := [.int (32), .int (32)]) (rest := []) cx hl.1 (ctX8_isAt l g a_t t_acted t_taped t_faultKind t_faultPlace t_at t_begin t_token t_value t_bad t_wide t_lost t_det t_mask t_mode t_wanted t_orders t_foundAt t_foundBy t_unlikes t_tape (32) (32) r1 hr2) kmX8_isAt kvX8_isAt lm_X8_90 ⟨rfl, rfl⟩ ⟨Nat.le_of_ble_eq_true rfl, Nat.le_of_ble_eq_true rfl⟩ (roV (q0 := 0) (ci := 7) hG (hP.sub [0, 1] rfl) hP rfl rfl) rfl rfl (Nat.le_of_ble_eq_true rfl) dX8_next_5 ⟨Nat.le_of_ble_eq_true rfl, Nat.le_of_ble_eq_true rfl⟩) (fun hz3 => ?_)
    refine lv_if_ne (tgt := 22) hx hb dX8_next_8 (by decide) (fun c4 => ?_) (fun c4 => ?_)
    · have h := itn c4 h
      exact w22 _ ih t_at t_begin t_token t_value _ _ hP hD hS _ (lv_sub hl [0] rfl) h
    · have h := itp c4 h
      refine lv_aload_n hx hb dX8_next_11 rfl (lv_at hl 0 rfl) ?_
      refine lv_bipush (v := 10) hx hb dX8_next_12 (by decide) ?_
      refine lv_bipush (v := 10) hx hb dX8_next_14 (by decide) ?_
      obtain ⟨r5, hr6, h⟩ := bnd h
      refine ro_z (runV (As := [.int (10), .int (10)]) (rest := []) cx hl.1 (ctX8_isAt l g a_t t_acted t_taped t_faultKind t_faultPlace t_at t_begin t_token t_value t_bad t_wide t_lost t_det t_mask t_mode t_wanted t_orders t_foundAt t_foundBy t_unlikes t_tape (10) (10) r5 hr6) kmX8_isAt kvX8_isAt lm_X8_90 ⟨rfl, rfl⟩ ⟨Nat.le_of_ble_eq_true rfl, Nat.le_of_ble_eq_true rfl⟩ (roV (q0 := 0) (ci := 7) hG (hP.sub [0, 1] rfl) hP rfl rfl) rfl rfl (Nat.le_of_ble_eq_true rfl) dX8_next_16 ⟨Nat.le_of_ble_eq_true rfl, Nat.le_of_ble_eq_true rfl⟩) (fun hz7 => ?_)
      refine lv_if_eq (tgt := 35) hx hb dX8_next_19 (by decide) (fun c8 => ?_) (fun c8 => ?_)
      · have h := itp c8 h
        exact w35 t_at t_begin t_token t_value _ _ hP hD hS _ (lv_sub hl [0] rfl) h
      · have h := itn c8 h
        exact w22 _ ih t_at t_begin t_token t_value _ _ hP hD hS _ (lv_sub hl [0] rfl) h
  unfold fX8_next at h
  exact w0 _ t_at t_begin t_token t_value _ _ hP hD hS _ (lv_sub hl [0] rfl) h
-- X8_faults
theorem dX8_faults_0 : decode cX8_faults 0 = .ok (.aload_n 0, 1) := by decide +kernel
theorem dX8_faults_1 : decode cX8_faults 1 = .ok (.getfield 108, 3) := by decide +kernel
theorem dX8_faults_4 : decode cX8_faults 4 = .ok (.ifCond .ne 21, 3) := by decide +kernel
theorem dX8_faults_7 : decode cX8_faults 7 = .ok (.aload_n 0, 1) := by decide +kernel
theorem dX8_faults_8 : decode cX8_faults 8 = .ok (.iconst 1, 1) := by decide +kernel
theorem dX8_faults_9 : decode cX8_faults 9 = .ok (.putfield 108, 3) := by decide +kernel
theorem dX8_faults_12 : decode cX8_faults 12 = .ok (.aload_n 0, 1) := by decide +kernel
theorem dX8_faults_13 : decode cX8_faults 13 = .ok (.iload_n 1, 1) := by decide +kernel
theorem dX8_faults_14 : decode cX8_faults 14 = .ok (.putfield 112, 3) := by decide +kernel
theorem dX8_faults_17 : decode cX8_faults 17 = .ok (.aload_n 0, 1) := by decide +kernel
theorem dX8_faults_18 : decode cX8_faults 18 = .ok (.aload_n 0, 1) := by decide +kernel
theorem dX8_faults_19 : decode cX8_faults 19 = .ok (.getfield 94, 3) := by decide +kernel
theorem dX8_faults_22 : decode cX8_faults 22 = .ok (.putfield 47, 3) := by decide +kernel
theorem dX8_faults_25 : decode cX8_faults 25 = .ok (.return_, 1) := by decide +kernel
noncomputable def fX8_faults  (t_faultKind : Int32) (t_faultPlace : Int32) (t_begin : Int32) (t_bad : Int32) (v1 : Int32) : Option (Int32 × Int32 × Int32) := (if t_bad = 0 then some (v1, t_begin, 1) else some (t_faultKind, t_faultPlace, t_bad))
set_option maxHeartbeats 4000000 in
set_option maxRecDepth 100000 in
theorem ctX8_faults (l : Launch) (g : GT) (sz : Nat) (a_t : Nat → Nat) (t_acted : Int32) (t_taped : Int32) (t_faultKind : Int32) (t_faultPlace : Int32) (t_at : Int32) (t_begin : Int32) (t_token : Int32) (t_value : Int32) (t_bad : Int32) (t_wide : Int32) (t_lost : Int32) (t_det : Int64) (t_mask : Int32) (t_mode : Int32) (t_wanted : Int32) (t_orders : Int32) (t_foundAt : Int32) (t_foundBy : Int64) (t_unlikes : Int32) (v1 : Int32) (o_t_faultKind : Int32) (o_t_faultPlace : Int32) (o_t_bad : Int32) (h : fX8_faults t_faultKind t_faultPlace t_begin t_bad v1 = some (o_t_faultKind, o_t_faultPlace, o_t_bad)) : Met l yX8_faults (Cond.code yX8_faults cX8_faults 2 none :: Tw) ⟨0, 0, 0, 0⟩ (va_Pc [.ref ((a_t 0)), .int v1] (rwB g [((a_t 0), .inr (7, [.ref (a_t 1), .ref (a_t 2), .int t_acted, .ref (a_t 4), .ref (a_t 5), .ref (a_t 6), .ref (a_t 7), .ref (a_t 8), .ref (a_t 9), .int t_taped, .int t_faultKind, .int t_faultPlace, .int t_at, .int t_begin, .int t_token, .int t_value, .int t_bad, .ref (a_t 18), .ref (a_t 19), .ref (a_t 20), .int t_wide, .int t_lost, .ref (a_t 23), .long t_det, .ref (a_t 25), .int t_mask, .int t_mode, .int t_wanted, .int t_orders, .int t_foundAt, .long t_foundBy, .ref (a_t 32), .ref (a_t 33), .int t_unlikes, .ref (a_t 35), .ref (a_t 36)]))] sz)) (va_Qv (fun (_ : Nat → Nat) => True) (fun u => rwE g (va_A [((a_t 0), .inr (7, [.ref (a_t 1), .ref (a_t 2), .int t_acted, .ref (a_t 4), .ref (a_t 5), .ref (a_t 6), .ref (a_t 7), .ref (a_t 8), .ref (a_t 9), .int t_taped, .int t_faultKind, .int t_faultPlace, .int t_at, .int t_begin, .int t_token, .int t_value, .int t_bad, .ref (a_t 18), .ref (a_t 19), .ref (a_t 20), .int t_wide, .int t_lost, .ref (a_t 23), .long t_det, .ref (a_t 25), .int t_mask, .int t_mode, .int t_wanted, .int t_orders, .int t_foundAt, .long t_foundBy, .ref (a_t 32), .ref (a_t 33), .int t_unlikes, .ref (a_t 35), .ref (a_t 36)]))] sz) [((a_t 0), .inr (7, [.ref (a_t 1), .ref (a_t 2), .int t_acted, .ref (a_t 4), .ref (a_t 5), .ref (a_t 6), .ref (a_t 7), .ref (a_t 8), .ref (a_t 9), .int t_taped, .int o_t_faultKind, .int o_t_faultPlace, .int t_at, .int t_begin, .int t_token, .int t_value, .int o_t_bad, .ref (a_t 18), .ref (a_t 19), .ref (a_t 20), .int t_wide, .int t_lost, .ref (a_t 23), .long t_det, .ref (a_t 25), .int t_mask, .int t_mode, .int t_wanted, .int t_orders, .int t_foundAt, .long t_foundBy, .ref (a_t 32), .ref (a_t 33), .int t_unlikes, .ref (a_t 35), .ref (a_t 36)]))]) (va_A [((a_t 0), .inr (7, [.ref (a_t 1), .ref (a_t 2), .int t_acted, .ref (a_t 4), .ref (a_t 5), .ref (a_t 6), .ref (a_t 7), .ref (a_t 8), .ref (a_t 9), .int t_taped, .int t_faultKind, .int t_faultPlace, .int t_at, .int t_begin, .int t_token, .int t_value, .int t_bad, .ref (a_t 18), .ref (a_t 19), .ref (a_t 20), .int t_wide, .int t_lost, .ref (a_t 23), .long t_det, .ref (a_t 25), .int t_mask, .int t_mode, .int t_wanted, .int t_orders, .int t_foundAt, .long t_foundBy, .ref (a_t 32), .ref (a_t 33), .int t_unlikes, .ref (a_t 35), .ref (a_t 36)]))] sz)) 0 0 (va_A [((a_t 0), .inr (7, [.ref (a_t 1), .ref (a_t 2), .int t_acted, .ref (a_t 4), .ref (a_t 5), .ref (a_t 6), .ref (a_t 7), .ref (a_t 8), .ref (a_t 9), .int t_taped, .int t_faultKind, .int t_faultPlace, .int t_at, .int t_begin, .int t_token, .int t_value, .int t_bad, .ref (a_t 18), .ref (a_t 19), .ref (a_t 20), .int t_wide, .int t_lost, .ref (a_t 23), .long t_det, .ref (a_t 25), .int t_mask, .int t_mode, .int t_wanted, .int t_orders, .int t_foundAt, .long t_foundBy, .ref (a_t 32), .ref (a_t 33), .int t_unlikes, .ref (a_t 35), .ref (a_t 36)]))] sz) := by
  refine rw_metv (by decide) (Nat.le_of_ble_eq_true rfl) (lv0 := [(0, .ref ((a_t 0))), (1, .int v1)]) rfl ?_
  intro p e s m args below meth c ls Q A cx hret hG hAb hb0 hA hP hD hl
  have hx := cx.1
  have hb := cx.2.1
  have hG0 := hG
  have hGk : ∀ {H : Heap} {locs : List Loc}, va_S A s.heap H locs → GE g s H := fun hS => hG0.keptS hAb hS
  have hSb : ∀ {H : Heap} {locs : List Loc}, va_S A s.heap H locs → va_S (fun a => g.1 ≤ a) s.heap H locs := fun hS => ⟨hS.1, fun q h1 h2 => hS.2.1 q h1 (fun z => h2 (hAb q z)), fun l hl => hAb _ (hS.2.2 l hl)⟩
  have hS : va_S A s.heap s.heap [] := va_S.rf
  have hrt : ∀ (u : Nat → Nat) (pc : Nat) (ls : Array Slot) (x_t_faultKind : Int32) (x_t_faultPlace : Int32) (x_t_bad : Int32) (H : Heap) (locs : List Loc), decode cX8_faults pc = .ok (.return_, 1) → some (x_t_faultKind, x_t_faultPlace, x_t_bad) = some (o_t_faultKind, o_t_faultPlace, o_t_bad) → va_P g.2.1 vwCl [((a_t 0), .inr (7, [.ref (a_t 1), .ref (a_t 2), .int t_acted, .ref (a_t 4), .ref (a_t 5), .ref (a_t 6), .ref (a_t 7), .ref (a_t 8), .ref (a_t 9), .int t_taped, .int x_t_faultKind, .int x_t_faultPlace, .int t_at, .int t_begin, .int t_token, .int t_value, .int x_t_bad, .ref (a_t 18), .ref (a_t 19), .ref (a_t 20), .int t_wide, .int t_lost, .ref (a_t 23), .long t_det, .ref (a_t 25), .int t_mask, .int t_mode, .int t_wanted, .int t_orders, .int t_foundAt, .long t_foundBy, .ref (a_t 32), .ref (a_t 33), .int t_unlikes, .ref (a_t 35), .ref (a_t 36)]))] H → va_D A [((a_t 0), .inr (7, [.ref (a_t 1), .ref (a_t 2), .int t_acted, .ref (a_t 4), .ref (a_t 5), .ref (a_t 6), .ref (a_t 7), .ref (a_t 8), .ref (a_t 9), .int t_taped, .int x_t_faultKind, .int x_t_faultPlace, .int t_at, .int t_begin, .int t_token, .int t_value, .int x_t_bad, .ref (a_t 18), .ref (a_t 19), .ref (a_t 20), .int t_wide, .int t_lost, .ref (a_t 23), .long t_det, .ref (a_t 25), .int t_mask, .int t_mode, .int t_wanted, .int t_orders, .int t_foundAt, .long t_foundBy, .ref (a_t 32), .ref (a_t 33), .int t_unlikes, .ref (a_t 35), .ref (a_t 36)]))] → va_S A s.heap H locs → W p l e ⟨0, 0, 0, 0⟩ s m args below meth c H locs 0 0 Q (F0 m pc ls []) := by
    intro u pc ls x_t_faultKind x_t_faultPlace x_t_bad H locs hd h hP hD hS
    cases h
    exact hret u _ _ _ _ hd hP hD hS
  unfold fX8_faults at h
  refine lv_aload_n hx hb dX8_faults_0 rfl (lv_at hl 0 rfl) ?_
  refine xa_get (C := RX8) (T := TX8) (N := 36) cx hG hP 0 rfl rfl uX8 16 (by decide) lf_X8_108 rfl dX8_faults_1 ?_
  refine lv_if_ne (tgt := 25) hx hb dX8_faults_4 (by decide) (fun c1 => ?_) (fun c1 => ?_)
  · have h := itn c1 h
    exact hrt (fun _ => 0) _ _ t_faultKind t_faultPlace t_bad _ _ dX8_faults_25 h (hP.sub [0] rfl) (hD.sub [0] (by decide) rfl) hS
  · have h := itp c1 h
    refine lv_aload_n hx hb dX8_faults_7 rfl (lv_at hl 0 rfl) ?_
    refine lv_iconst (v := 1) hx hb dX8_faults_8 (by decide) ?_
    refine xw_put (C := RX8) (T := TX8) (N := 36) (ty := .boolean) (v := .int (1)) (ws' := [((a_t 0), .inr (7, [.ref (a_t 1), .ref (a_t 2), .int t_acted, .ref (a_t 4), .ref (a_t 5), .ref (a_t 6), .ref (a_t 7), .ref (a_t 8), .ref (a_t 9), .int t_taped, .int t_faultKind, .int t_faultPlace, .int t_at, .int t_begin, .int t_token, .int t_value, .int 1, .ref (a_t 18), .ref (a_t 19), .ref (a_t 20), .int t_wide, .int t_lost, .ref (a_t 23), .long t_det, .ref (a_t 25), .int t_mask, .int t_mode, .int t_wanted, .int t_orders, .int t_foundAt, .long t_foundBy, .ref (a_t 32), .ref (a_t 33), .int t_unlikes, .ref (a_t 35), .ref (a_t 36)]))]) cx hG hP hD hS 0 rfl rfl uX8 tyX8 tyX8_ok nmX8 16 (by decide) lf_X8_108 rfl (by decide +kernel) rfl rfl (Nat.le_of_ble_eq_true rfl) rfl dX8_faults_9 (fun H locs hP hD hS => ?_)
    have hG := hGk hS
    refine lv_aload_n hx hb dX8_faults_12 rfl (lv_at hl 0 rfl) ?_
    refine lv_iload_n hx hb dX8_faults_13 rfl (lv_at hl 1 rfl) ?_
    refine xw_put (C := RX8) (T := TX8) (N := 36) (ty := .int) (v := .int v1) (ws' := [((a_t 0), .inr (7, [.ref (a_t 1), .ref (a_t 2), .int t_acted, .ref (a_t 4), .ref (a_t 5), .ref (a_t 6), .ref (a_t 7), .ref (a_t 8), .ref (a_t 9), .int t_taped, .int v1, .int t_faultPlace, .int t_at, .int t_begin, .int t_token, .int t_value, .int 1, .ref (a_t 18), .ref (a_t 19), .ref (a_t 20), .int t_wide, .int t_lost, .ref (a_t 23), .long t_det, .ref (a_t 25), .int t_mask, .int t_mode, .int t_wanted, .int t_orders, .int t_foundAt, .long t_foundBy, .ref (a_t 32), .ref (a_t 33), .int t_unlikes, .ref (a_t 35), .ref (a_t 36)]))]) cx hG hP hD hS 0 rfl rfl uX8 tyX8 tyX8_ok nmX8 10 (by decide) lf_X8_112 rfl (by decide +kernel) rfl rfl (Nat.le_of_ble_eq_true rfl) rfl dX8_faults_14 (fun H locs hP hD hS => ?_)
    have hG := hGk hS
    refine lv_aload_n hx hb dX8_faults_17 rfl (lv_at hl 0 rfl) ?_
    refine lv_aload_n hx hb dX8_faults_18 rfl (lv_at hl 0 rfl) ?_
    refine xa_get (C := RX8) (T := TX8) (N := 36) cx hG hP 0 rfl rfl uX8 13 (by decide) lf_X8_94 rfl dX8_faults_19 ?_
    refine xw_put (C := RX8) (T := TX8) (N := 36) (ty := .int) (v := .int t_begin) (ws' := [((a_t 0), .inr (7, [.ref (a_t 1), .ref (a_t 2), .int t_acted, .ref (a_t 4), .ref (a_t 5), .ref (a_t 6), .ref (a_t 7), .ref (a_t 8), .ref (a_t 9), .int t_taped, .int v1, .int t_begin, .int t_at, .int t_begin, .int t_token, .int t_value, .int 1, .ref (a_t 18), .ref (a_t 19), .ref (a_t 20), .int t_wide, .int t_lost, .ref (a_t 23), .long t_det, .ref (a_t 25), .int t_mask, .int t_mode, .int t_wanted, .int t_orders, .int t_foundAt, .long t_foundBy, .ref (a_t 32), .ref (a_t 33), .int t_unlikes, .ref (a_t 35), .ref (a_t 36)]))]) cx hG hP hD hS 0 rfl rfl uX8 tyX8 tyX8_ok nmX8 11 (by decide) lf_X8_47 rfl (by decide +kernel) rfl rfl (Nat.le_of_ble_eq_true rfl) rfl dX8_faults_22 (fun H locs hP hD hS => ?_)
    have hG := hGk hS
    exact hrt (fun _ => 0) _ _ v1 t_begin (1) _ _ dX8_faults_25 h (hP.sub [0] rfl) (hD.sub [0] (by decide) rfl) hS
-- X8_isWord
theorem dX8_isWord_0 : decode cX8_isWord 0 = .ok (.aload_n 0, 1) := by decide +kernel
theorem dX8_isWord_1 : decode cX8_isWord 1 = .ok (.getfield 100, 3) := by decide +kernel
theorem dX8_isWord_4 : decode cX8_isWord 4 = .ok (.iconst 1, 1) := by decide +kernel
theorem dX8_isWord_5 : decode cX8_isWord 5 = .ok (.if_icmp .ne 23, 3) := by decide +kernel
theorem dX8_isWord_8 : decode cX8_isWord 8 = .ok (.aload_n 0, 1) := by decide +kernel
theorem dX8_isWord_9 : decode cX8_isWord 9 = .ok (.getfield 87, 3) := by decide +kernel
theorem dX8_isWord_12 : decode cX8_isWord 12 = .ok (.aload_n 0, 1) := by decide +kernel
theorem dX8_isWord_13 : decode cX8_isWord 13 = .ok (.getfield 94, 3) := by decide +kernel
theorem dX8_isWord_16 : decode cX8_isWord 16 = .ok (.isub, 1) := by decide +kernel
theorem dX8_isWord_17 : decode cX8_isWord 17 = .ok (.aload_n 1, 1) := by decide +kernel
theorem dX8_isWord_18 : decode cX8_isWord 18 = .ok (.invokevirtual 115, 3) := by decide +kernel
theorem dX8_isWord_21 : decode cX8_isWord 21 = .ok (.if_icmp .ne 7, 3) := by decide +kernel
theorem dX8_isWord_24 : decode cX8_isWord 24 = .ok (.iconst 1, 1) := by decide +kernel
theorem dX8_isWord_25 : decode cX8_isWord 25 = .ok (.goto 4, 3) := by decide +kernel
theorem dX8_isWord_28 : decode cX8_isWord 28 = .ok (.iconst 0, 1) := by decide +kernel
theorem dX8_isWord_29 : decode cX8_isWord 29 = .ok (.istore_n 2, 1) := by decide +kernel
theorem dX8_isWord_30 : decode cX8_isWord 30 = .ok (.iconst 0, 1) := by decide +kernel
theorem dX8_isWord_31 : decode cX8_isWord 31 = .ok (.istore_n 3, 1) := by decide +kernel
theorem dX8_isWord_32 : decode cX8_isWord 32 = .ok (.iload_n 3, 1) := by decide +kernel
theorem dX8_isWord_33 : decode cX8_isWord 33 = .ok (.aload_n 1, 1) := by decide +kernel
theorem dX8_isWord_34 : decode cX8_isWord 34 = .ok (.invokevirtual 115, 3) := by decide +kernel
theorem dX8_isWord_37 : decode cX8_isWord 37 = .ok (.if_icmp .ge 38, 3) := by decide +kernel
theorem dX8_isWord_40 : decode cX8_isWord 40 = .ok (.iload_n 2, 1) := by decide +kernel
theorem dX8_isWord_41 : decode cX8_isWord 41 = .ok (.ifCond .eq 34, 3) := by decide +kernel
theorem dX8_isWord_44 : decode cX8_isWord 44 = .ok (.aload_n 0, 1) := by decide +kernel
theorem dX8_isWord_45 : decode cX8_isWord 45 = .ok (.getfield 44, 3) := by decide +kernel
theorem dX8_isWord_48 : decode cX8_isWord 48 = .ok (.aload_n 0, 1) := by decide +kernel
theorem dX8_isWord_49 : decode cX8_isWord 49 = .ok (.getfield 94, 3) := by decide +kernel
theorem dX8_isWord_52 : decode cX8_isWord 52 = .ok (.iload_n 3, 1) := by decide +kernel
theorem dX8_isWord_53 : decode cX8_isWord 53 = .ok (.iadd, 1) := by decide +kernel
theorem dX8_isWord_54 : decode cX8_isWord 54 = .ok (.iaload, 1) := by decide +kernel
theorem dX8_isWord_55 : decode cX8_isWord 55 = .ok (.aload_n 1, 1) := by decide +kernel
theorem dX8_isWord_56 : decode cX8_isWord 56 = .ok (.iload_n 3, 1) := by decide +kernel
theorem dX8_isWord_57 : decode cX8_isWord 57 = .ok (.invokevirtual 121, 3) := by decide +kernel
theorem dX8_isWord_60 : decode cX8_isWord 60 = .ok (.if_icmp .ne 7, 3) := by decide +kernel
theorem dX8_isWord_63 : decode cX8_isWord 63 = .ok (.iconst 1, 1) := by decide +kernel
theorem dX8_isWord_64 : decode cX8_isWord 64 = .ok (.goto 4, 3) := by decide +kernel
theorem dX8_isWord_67 : decode cX8_isWord 67 = .ok (.iconst 0, 1) := by decide +kernel
theorem dX8_isWord_68 : decode cX8_isWord 68 = .ok (.istore_n 2, 1) := by decide +kernel
theorem dX8_isWord_69 : decode cX8_isWord 69 = .ok (.iinc 3 1, 3) := by decide +kernel
theorem dX8_isWord_72 : decode cX8_isWord 72 = .ok (.goto (-40), 3) := by decide +kernel
theorem dX8_isWord_75 : decode cX8_isWord 75 = .ok (.iload_n 2, 1) := by decide +kernel
theorem dX8_isWord_76 : decode cX8_isWord 76 = .ok (.ireturn, 1) := by decide +kernel
noncomputable def fX8_isWord_68 (k32 : (Nat → Int32) → Int32 → Nat → Int32 → Int32 → Option (Int32)) (t_tape : Nat → Int32) (t_begin : Int32) (v1 : Nat) (v3 : Int32) (z0 : Int32) : Option (Int32) := k32 t_tape t_begin v1 z0 (v3 + 1)
noncomputable def fX8_isWord_32  : Nat → (Nat → Int32) → Int32 → Nat → Int32 → Int32 → Option (Int32)
  | 0, _, _, _, _, _ => none
  | n + 1, t_tape, t_begin, v1, v2, v3 => (if (nI (strN.getD v1 0)) ≤ v3 then zb v2 (some v2) else (if v2 = 0 then zb v2 (some v2) else chk 600 (t_begin + v3) (chk (strN.getD v1 0) v3 ((if (t_tape (t_begin + v3).toNatClampNeg) = ((strB.getD v1 []).getD v3.toNatClampNeg 0) then fX8_isWord_68 (fX8_isWord_32 n) t_tape t_begin v1 v3 1 else fX8_isWord_68 (fX8_isWord_32 n) t_tape t_begin v1 v3 0)))))
theorem fX8_isWord_32_z  (t_tape : Nat → Int32) (t_begin : Int32) (v1 : Nat) (v2 : Int32) (v3 : Int32) : fX8_isWord_32  0 t_tape t_begin v1 v2 v3 = none := rfl
theorem fX8_isWord_32_s  (n : Nat) (t_tape : Nat → Int32) (t_begin : Int32) (v1 : Nat) (v2 : Int32) (v3 : Int32) : fX8_isWord_32  (n + 1) t_tape t_begin v1 v2 v3 = (if (nI (strN.getD v1 0)) ≤ v3 then zb v2 (some v2) else (if v2 = 0 then zb v2 (some v2) else chk 600 (t_begin + v3) (chk (strN.getD v1 0) v3 ((if (t_tape (t_begin + v3).toNatClampNeg) = ((strB.getD v1 []).getD v3.toNatClampNeg 0) then fX8_isWord_68 (fX8_isWord_32 n) t_tape t_begin v1 v3 1 else fX8_isWord_68 (fX8_isWord_32 n) t_tape t_begin v1 v3 0))))) := rfl
noncomputable def fX8_isWord_29  (t_tape : Nat → Int32) (t_begin : Int32) (v1 : Nat) (z0 : Int32) : Option (Int32) := fX8_isWord_32 FU t_tape t_begin v1 z0 0
noncomputable def fX8_isWord_28  (t_tape : Nat → Int32) (t_begin : Int32) (v1 : Nat) : Option (Int32) := fX8_isWord_29 t_tape t_begin v1 0
noncomputable def fX8_isWord  (t_tape : Nat → Int32) (t_at : Int32) (t_begin : Int32) (t_token : Int32) (v1 : Nat) : Option (Int32) := (if t_token = 1 then (if (t_at - t_begin) = (nI (strN.getD v1 0)) then fX8_isWord_29 t_tape t_begin v1 1 else fX8_isWord_28 t_tape t_begin v1) else fX8_isWord_28 t_tape t_begin v1)
set_option maxHeartbeats 4000000 in
set_option maxRecDepth 100000 in
theorem ctX8_isWord (l : Launch) (g : GT) (a_t : Nat → Nat) (t_acted : Int32) (t_taped : Int32) (t_faultKind : Int32) (t_faultPlace : Int32) (t_at : Int32) (t_begin : Int32) (t_token : Int32) (t_value : Int32) (t_bad : Int32) (t_wide : Int32) (t_lost : Int32) (t_det : Int64) (t_mask : Int32) (t_mode : Int32) (t_wanted : Int32) (t_orders : Int32) (t_foundAt : Int32) (t_foundBy : Int64) (t_unlikes : Int32) (t_tape : Nat → Int32) (v1 : Nat) (hs_v1 : v1 < 13) (o : Int32) (h : fX8_isWord t_tape t_at t_begin t_token v1 = some o) : Met l yX8_isWord (Cond.code yX8_isWord cX8_isWord 4 (some .boolean) :: Tw) ⟨8, 0, 0, 150⟩ (va_Pc [.ref ((a_t 0)), .ref ((g.2.2.2.2.1 v1))] (roB g [((a_t 0), .inr (7, [.ref (a_t 1), .ref (a_t 2), .int t_acted, .ref (a_t 4), .ref (a_t 5), .ref (a_t 6), .ref (a_t 7), .ref (a_t 8), .ref (a_t 9), .int t_taped, .int t_faultKind, .int t_faultPlace, .int t_at, .int t_begin, .int t_token, .int t_value, .int t_bad, .ref (a_t 18), .ref (a_t 19), .ref (a_t 20), .int t_wide, .int t_lost, .ref (a_t 23), .long t_det, .ref (a_t 25), .int t_mask, .int t_mode, .int t_wanted, .int t_orders, .int t_foundAt, .long t_foundBy, .ref (a_t 32), .ref (a_t 33), .int t_unlikes, .ref (a_t 35), .ref (a_t 36)])), ((a_t 9), .inl (g.2.2.1 0, 600, .inl t_tape))])) (vp_Si (fun x => x = o ∧ (x = 0 ∨ x = 1))) 0 0 (fun _ => False) := by
  refine ro_metz (by decide) (Nat.le_of_ble_eq_true rfl) (lv0 := [(0, .ref ((a_t 0))), (1, .ref ((g.2.2.2.2.1 v1)))]) rfl ?_
  intro p e s m args below meth c ls Q cx hret hG hP hl
  have hx := cx.1
  have hb := cx.2.1
  have hG0 := hG
  have w68 : ∀ (k32 : (Nat → Int32) → Int32 → Nat → Int32 → Int32 → Option (Int32)) (hk32 : ∀ (v2 : Int32) (v3 : Int32) (ls : Array Slot), lv_has ls 4 [(0, .ref ((a_t 0))), (1, .ref ((g.2.2.2.2.1 v1))), (2, .int v2), (3, .int v3)] → k32 t_tape t_begin v1 v2 v3 = some o → W p l e ⟨8, 0, 0, 150⟩ s m args below meth c s.heap [] 0 0 Q (F0 m 32 ls [])) (v3 : Int32) (z0 : Int32) (ls : Array Slot), lv_has ls 4 [(0, .ref ((a_t 0))), (1, .ref ((g.2.2.2.2.1 v1))), (3, .int v3)] → fX8_isWord_68 k32 t_tape t_begin v1 v3 z0 = some o → W p l e ⟨8, 0, 0, 150⟩ s m args below meth c s.heap [] 0 0 Q (F0 m 68 ls [.int z0]) := by
    intro k32 hk32 v3 z0 ls hl h
    unfold fX8_isWord_68 at h
    refine lv_istore_n (lv' := [(2, .int z0), (0, .ref ((a_t 0))), (1, .ref ((g.2.2.2.2.1 v1))), (3, .int v3)]) hx hb dX8_isWord_68 rfl hl (by decide) rfl (fun ls hl => ?_)
    refine lv_iinc (v := v3 + 1) (lv' := [(3, .int (v3 + 1)), (2, .int z0), (0, .ref ((a_t 0))), (1, .ref ((g.2.2.2.2.1 v1)))]) hx hb dX8_isWord_69 hl (k := 3) rfl rfl (by decide) rfl (fun ls hl => ?_)
    refine lv_goto (tgt := 32) hx hb dX8_isWord_72 (by decide) ?_
    exact hk32 z0 (v3 + 1) _ (lv_sub hl [2, 3, 1, 0] rfl) h
  have w32 : ∀ (n : Nat) (v2 : Int32) (v3 : Int32) (ls : Array Slot), lv_has ls 4 [(0, .ref ((a_t 0))), (1, .ref ((g.2.2.2.2.1 v1))), (2, .int v2), (3, .int v3)] → fX8_isWord_32  n t_tape t_begin v1 v2 v3 = some o → W p l e ⟨8, 0, 0, 150⟩ s m args below meth c s.heap [] 0 0 Q (F0 m 32 ls []) := by
    intro n
    induction n with
    | zero => intro v2 v3 ls hl h; cases (fX8_isWord_32_z  t_tape t_begin v1 v2 v3).symm.trans h
    | succ n ih =>
    intro v2 v3 ls hl h
    have h := (fX8_isWord_32_s  n t_tape t_begin v1 v2 v3).symm.trans h
    refine lv_iload_n hx hb dX8_isWord_32 rfl (lv_at hl 3 rfl) ?_
    refine lv_aload_n hx hb dX8_isWord_33 rfl (lv_at hl 1 rfl) ?_
    refine ro_i (runV (As := []) (rest := [.int v3]) cx hl.1 (ctJ0_length_8abf5 l g v1 hs_v1) kmJ0_length_8abf5 kvJ0_length_8abf5 lm_X8_115 ⟨rfl, rfl⟩ ⟨Nat.le_of_ble_eq_true rfl, Nat.le_of_ble_eq_true rfl⟩ (xt_pre hG hs_v1) rfl rfl (Nat.le_of_ble_eq_true rfl) dX8_isWord_34 ⟨Nat.le_of_ble_eq_true rfl, Nat.le_of_ble_eq_true rfl⟩) ?_
    refine lv_icmp_ge (tgt := 75) hx hb dX8_isWord_37 (by decide) (fun c3 => ?_) (fun c3 => ?_)
    · have h := itp c3 h
      refine lv_iload_n hx hb dX8_isWord_75 rfl (lv_at hl 2 rfl) ?_
      obtain ⟨hb4, h⟩ := zb_out h
      exact hret _ _ _ dX8_isWord_76 hb4 (Option.some.inj h)
    · have h := itn c3 h
      refine lv_iload_n hx hb dX8_isWord_40 rfl (lv_at hl 2 rfl) ?_
      refine lv_if_eq (tgt := 75) hx hb dX8_isWord_41 (by decide) (fun c5 => ?_) (fun c5 => ?_)
      · have h := itp c5 h
        refine lv_iload_n hx hb dX8_isWord_75 rfl (lv_at hl 2 rfl) ?_
        obtain ⟨hb6, h⟩ := zb_out h
        exact hret _ _ _ dX8_isWord_76 hb6 (Option.some.inj h)
      · have h := itn c5 h
        refine lv_aload_n hx hb dX8_isWord_44 rfl (lv_at hl 0 rfl) ?_
        refine xa_get (C := RX8) (T := TX8) (N := 36) cx hG hP 0 rfl rfl uX8 8 (by decide) lf_X8_44 rfl dX8_isWord_45 ?_
        refine lv_aload_n hx hb dX8_isWord_48 rfl (lv_at hl 0 rfl) ?_
        refine xa_get (C := RX8) (T := TX8) (N := 36) cx hG hP 0 rfl rfl uX8 13 (by decide) lf_X8_94 rfl dX8_isWord_49 ?_
        refine lv_iload_n hx hb dX8_isWord_52 rfl (lv_at hl 3 rfl) ?_
        refine lv_iadd hx hb dX8_isWord_53 ?_
        obtain ⟨hi7, h⟩ := chk_out h
        refine xa_iald cx hG hP 1 rfl hi7 rfl dX8_isWord_54 ?_
        refine lv_aload_n hx hb dX8_isWord_55 rfl (lv_at hl 1 rfl) ?_
        refine lv_iload_n hx hb dX8_isWord_56 rfl (lv_at hl 3 rfl) ?_
        obtain ⟨hi8, h⟩ := chk_out h
        refine ro_i (runV (As := [.int v3]) (rest := [.int (t_tape (t_begin + v3).toNatClampNeg)]) cx hl.1 (ctJ0_charAt_5068e l g v1 hs_v1 v3 hi8) kmJ0_charAt_5068e kvJ0_charAt_5068e lm_X8_121 ⟨rfl, rfl⟩ ⟨Nat.le_of_ble_eq_true rfl, Nat.le_of_ble_eq_true rfl⟩ (xt_pre hG hs_v1) rfl rfl (Nat.le_of_ble_eq_true rfl) dX8_isWord_57 ⟨Nat.le_of_ble_eq_true rfl, Nat.le_of_ble_eq_true rfl⟩) ?_
        refine lv_icmp_ne (tgt := 67) hx hb dX8_isWord_60 (by decide) (fun c9 => ?_) (fun c9 => ?_)
        · have h := itn c9 h
          refine lv_iconst (v := 0) hx hb dX8_isWord_67 (by decide) ?_
          exact w68 _ ih v3 0 _ (lv_sub hl [0, 1, 3] rfl) h
        · have h := itp c9 h
          refine lv_iconst (v := 1) hx hb dX8_isWord_63 (by decide) ?_
          refine lv_goto (tgt := 68) hx hb dX8_isWord_64 (by decide) ?_
          exact w68 _ ih v3 1 _ (lv_sub hl [0, 1, 3] rfl) h
  have w29 : ∀ (z0 : Int32) (ls : Array Slot), lv_has ls 4 [(0, .ref ((a_t 0))), (1, .ref ((g.2.2.2.2.1 v1)))] → fX8_isWord_29  t_tape t_begin v1 z0 = some o → W p l e ⟨8, 0, 0, 150⟩ s m args below meth c s.heap [] 0 0 Q (F0 m 29 ls [.int z0]) := by
    intro z0 ls hl h
    unfold fX8_isWord_29 at h
    refine lv_istore_n (lv' := [(2, .int z0), (0, .ref ((a_t 0))), (1, .ref ((g.2.2.2.2.1 v1)))]) hx hb dX8_isWord_29 rfl hl (by decide) rfl (fun ls hl => ?_)
    refine lv_iconst (v := 0) hx hb dX8_isWord_30 (by decide) ?_
    refine lv_istore_n (lv' := [(3, .int (0)), (2, .int z0), (0, .ref ((a_t 0))), (1, .ref ((g.2.2.2.2.1 v1)))]) hx hb dX8_isWord_31 rfl hl (by decide) rfl (fun ls hl => ?_)
    exact w32 FU z0 0 _ (lv_sub hl [2, 3, 1, 0] rfl) h
  have w28 : ∀  (ls : Array Slot), lv_has ls 4 [(0, .ref ((a_t 0))), (1, .ref ((g.2.2.2.2.1 v1)))] → fX8_isWord_28  t_tape t_begin v1 = some o → W p l e ⟨8, 0, 0, 150⟩ s m args below meth c s.heap [] 0 0 Q (F0 m 28 ls []) := by
    intro  ls hl h
    unfold fX8_isWord_28 at h
    refine lv_iconst (v := 0) hx hb dX8_isWord_28 (by decide) ?_
    exact w29 0 _ (lv_sub hl [0, 1] rfl) h
  unfold fX8_isWord at h
  refine lv_aload_n hx hb dX8_isWord_0 rfl (lv_at hl 0 rfl) ?_
  refine xa_get (C := RX8) (T := TX8) (N := 36) cx hG hP 0 rfl rfl uX8 14 (by decide) lf_X8_100 rfl dX8_isWord_1 ?_
  refine lv_iconst (v := 1) hx hb dX8_isWord_4 (by decide) ?_
  refine lv_icmp_ne (tgt := 28) hx hb dX8_isWord_5 (by decide) (fun c1 => ?_) (fun c1 => ?_)
  · have h := itn c1 h
    exact w28 _ (lv_sub hl [0, 1] rfl) h
  · have h := itp c1 h
    refine lv_aload_n hx hb dX8_isWord_8 rfl (lv_at hl 0 rfl) ?_
    refine xa_get (C := RX8) (T := TX8) (N := 36) cx hG hP 0 rfl rfl uX8 12 (by decide) lf_X8_87 rfl dX8_isWord_9 ?_
    refine lv_aload_n hx hb dX8_isWord_12 rfl (lv_at hl 0 rfl) ?_
    refine xa_get (C := RX8) (T := TX8) (N := 36) cx hG hP 0 rfl rfl uX8 13 (by decide) lf_X8_94 rfl dX8_isWord_13 ?_
    refine lv_isub hx hb dX8_isWord_16 ?_
    refine lv_aload_n hx hb dX8_isWord_17 rfl (lv_at hl 1 rfl) ?_
    refine ro_i (runV (As := []) (rest := [.int (t_at - t_begin)]) cx hl.1 (ctJ0_length_8abf5 l g v1 hs_v1) kmJ0_length_8abf5 kvJ0_length_8abf5 lm_X8_115 ⟨rfl, rfl⟩ ⟨Nat.le_of_ble_eq_true rfl, Nat.le_of_ble_eq_true rfl⟩ (xt_pre hG hs_v1) rfl rfl (Nat.le_of_ble_eq_true rfl) dX8_isWord_18 ⟨Nat.le_of_ble_eq_true rfl, Nat.le_of_ble_eq_true rfl⟩) ?_
    refine lv_icmp_ne (tgt := 28) hx hb dX8_isWord_21 (by decide) (fun c2 => ?_) (fun c2 => ?_)
    · have h := itn c2 h
      exact w28 _ (lv_sub hl [0, 1] rfl) h
    · have h := itp c2 h
      refine lv_iconst (v := 1) hx hb dX8_isWord_24 (by decide) ?_
      refine lv_goto (tgt := 29) hx hb dX8_isWord_25 (by decide) ?_
      exact w29 1 _ (lv_sub hl [0, 1] rfl) h
-- X8_passes
theorem dX8_passes_0 : decode cX8_passes 0 = .ok (.iload_n 1, 1) := by decide +kernel
theorem dX8_passes_1 : decode cX8_passes 1 = .ok (.ifCond .ne 8, 3) := by decide +kernel
theorem dX8_passes_4 : decode cX8_passes 4 = .ok (.aload_n 0, 1) := by decide +kernel
theorem dX8_passes_5 : decode cX8_passes 5 = .ok (.iconst 1, 1) := by decide +kernel
theorem dX8_passes_6 : decode cX8_passes 6 = .ok (.invokevirtual 125, 3) := by decide +kernel
theorem dX8_passes_9 : decode cX8_passes 9 = .ok (.aload_n 0, 1) := by decide +kernel
theorem dX8_passes_10 : decode cX8_passes 10 = .ok (.getfield 108, 3) := by decide +kernel
theorem dX8_passes_13 : decode cX8_passes 13 = .ok (.ifCond .ne 7, 3) := by decide +kernel
theorem dX8_passes_16 : decode cX8_passes 16 = .ok (.aload_n 0, 1) := by decide +kernel
theorem dX8_passes_17 : decode cX8_passes 17 = .ok (.invokevirtual 129, 3) := by decide +kernel
theorem dX8_passes_20 : decode cX8_passes 20 = .ok (.return_, 1) := by decide +kernel
noncomputable def fX8_passes_9  (t_tape : Nat → Int32) (t_taped : Int32) (t_faultKind : Int32) (t_faultPlace : Int32) (t_at : Int32) (t_begin : Int32) (t_token : Int32) (t_value : Int32) (t_bad : Int32) : Option (Int32 × Int32 × Int32 × Int32 × Int32 × Int32 × Int32) := (if t_bad = 0 then ob4 (fX8_next t_tape t_taped t_at t_begin t_token t_value) fun w9 w10 w11 w12 => some (t_faultKind, t_faultPlace, w9, w10, w11, w12, t_bad) else some (t_faultKind, t_faultPlace, t_at, t_begin, t_token, t_value, t_bad))
noncomputable def fX8_passes  (t_tape : Nat → Int32) (t_taped : Int32) (t_faultKind : Int32) (t_faultPlace : Int32) (t_at : Int32) (t_begin : Int32) (t_token : Int32) (t_value : Int32) (t_bad : Int32) (v1 : Int32) : Option (Int32 × Int32 × Int32 × Int32 × Int32 × Int32 × Int32) := (if v1 = 0 then ob3 (fX8_faults t_faultKind t_faultPlace t_begin t_bad 1) fun w3 w4 w5 => fX8_passes_9 t_tape t_taped w3 w4 t_at t_begin t_token t_value w5 else fX8_passes_9 t_tape t_taped t_faultKind t_faultPlace t_at t_begin t_token t_value t_bad)
set_option maxHeartbeats 4000000 in
set_option maxRecDepth 100000 in
theorem ctX8_passes (l : Launch) (g : GT) (sz : Nat) (a_t : Nat → Nat) (t_acted : Int32) (t_taped : Int32) (t_faultKind : Int32) (t_faultPlace : Int32) (t_at : Int32) (t_begin : Int32) (t_token : Int32) (t_value : Int32) (t_bad : Int32) (t_wide : Int32) (t_lost : Int32) (t_det : Int64) (t_mask : Int32) (t_mode : Int32) (t_wanted : Int32) (t_orders : Int32) (t_foundAt : Int32) (t_foundBy : Int64) (t_unlikes : Int32) (t_tape : Nat → Int32) (v1 : Int32) (o_t_faultKind : Int32) (o_t_faultPlace : Int32) (o_t_at : Int32) (o_t_begin : Int32) (o_t_token : Int32) (o_t_value : Int32) (o_t_bad : Int32) (h : fX8_passes t_tape t_taped t_faultKind t_faultPlace t_at t_begin t_token t_value t_bad v1 = some (o_t_faultKind, o_t_faultPlace, o_t_at, o_t_begin, o_t_token, o_t_value, o_t_bad)) : Met l yX8_passes (Cond.code yX8_passes cX8_passes 2 none :: Tw) ⟨3, 0, 0, 67⟩ (va_Pc [.ref ((a_t 0)), .int v1] (rwB g [((a_t 0), .inr (7, [.ref (a_t 1), .ref (a_t 2), .int t_acted, .ref (a_t 4), .ref (a_t 5), .ref (a_t 6), .ref (a_t 7), .ref (a_t 8), .ref (a_t 9), .int t_taped, .int t_faultKind, .int t_faultPlace, .int t_at, .int t_begin, .int t_token, .int t_value, .int t_bad, .ref (a_t 18), .ref (a_t 19), .ref (a_t 20), .int t_wide, .int t_lost, .ref (a_t 23), .long t_det, .ref (a_t 25), .int t_mask, .int t_mode, .int t_wanted, .int t_orders, .int t_foundAt, .long t_foundBy, .ref (a_t 32), .ref (a_t 33), .int t_unlikes, .ref (a_t 35), .ref (a_t 36)])), ((a_t 9), .inl (g.2.2.1 0, 600, .inl t_tape))] sz)) (va_Qv (fun (_ : Nat → Nat) => True) (fun u => rwE g (va_A [((a_t 0), .inr (7, [.ref (a_t 1), .ref (a_t 2), .int t_acted, .ref (a_t 4), .ref (a_t 5), .ref (a_t 6), .ref (a_t 7), .ref (a_t 8), .ref (a_t 9), .int t_taped, .int t_faultKind, .int t_faultPlace, .int t_at, .int t_begin, .int t_token, .int t_value, .int t_bad, .ref (a_t 18), .ref (a_t 19), .ref (a_t 20), .int t_wide, .int t_lost, .ref (a_t 23), .long t_det, .ref (a_t 25), .int t_mask, .int t_mode, .int t_wanted, .int t_orders, .int t_foundAt, .long t_foundBy, .ref (a_t 32), .ref (a_t 33), .int t_unlikes, .ref (a_t 35), .ref (a_t 36)])), ((a_t 9), .inl (g.2.2.1 0, 600, .inl t_tape))] sz) [((a_t 0), .inr (7, [.ref (a_t 1), .ref (a_t 2), .int t_acted, .ref (a_t 4), .ref (a_t 5), .ref (a_t 6), .ref (a_t 7), .ref (a_t 8), .ref (a_t 9), .int t_taped, .int o_t_faultKind, .int o_t_faultPlace, .int o_t_at, .int o_t_begin, .int o_t_token, .int o_t_value, .int o_t_bad, .ref (a_t 18), .ref (a_t 19), .ref (a_t 20), .int t_wide, .int t_lost, .ref (a_t 23), .long t_det, .ref (a_t 25), .int t_mask, .int t_mode, .int t_wanted, .int t_orders, .int t_foundAt, .long t_foundBy, .ref (a_t 32), .ref (a_t 33), .int t_unlikes, .ref (a_t 35), .ref (a_t 36)])), ((a_t 9), .inl (g.2.2.1 0, 600, .inl t_tape))]) (va_A [((a_t 0), .inr (7, [.ref (a_t 1), .ref (a_t 2), .int t_acted, .ref (a_t 4), .ref (a_t 5), .ref (a_t 6), .ref (a_t 7), .ref (a_t 8), .ref (a_t 9), .int t_taped, .int t_faultKind, .int t_faultPlace, .int t_at, .int t_begin, .int t_token, .int t_value, .int t_bad, .ref (a_t 18), .ref (a_t 19), .ref (a_t 20), .int t_wide, .int t_lost, .ref (a_t 23), .long t_det, .ref (a_t 25), .int t_mask, .int t_mode, .int t_wanted, .int t_orders, .int t_foundAt, .long t_foundBy, .ref (a_t 32), .ref (a_t 33), .int t_unlikes, .ref (a_t 35), .ref (a_t 36)])), ((a_t 9), .inl (g.2.2.1 0, 600, .inl t_tape))] sz)) 0 0 (va_A [((a_t 0), .inr (7, [.ref (a_t 1), .ref (a_t 2), .int t_acted, .ref (a_t 4), .ref (a_t 5), .ref (a_t 6), .ref (a_t 7), .ref (a_t 8), .ref (a_t 9), .int t_taped, .int t_faultKind, .int t_faultPlace, .int t_at, .int t_begin, .int t_token, .int t_value, .int t_bad, .ref (a_t 18), .ref (a_t 19), .ref (a_t 20), .int t_wide, .int t_lost, .ref (a_t 23), .long t_det, .ref (a_t 25), .int t_mask, .int t_mode, .int t_wanted, .int t_orders, .int t_foundAt, .long t_foundBy, .ref (a_t 32), .ref (a_t 33), .int t_unlikes, .ref (a_t 35), .ref (a_t 36)])), ((a_t 9), .inl (g.2.2.1 0, 600, .inl t_tape))] sz) := by
  refine rw_metv (by decide) (Nat.le_of_ble_eq_true rfl) (lv0 := [(0, .ref ((a_t 0))), (1, .int v1)]) rfl ?_
  intro p e s m args below meth c ls Q A cx hret hG hAb hb0 hA hP hD hl
  have hx := cx.1
  have hb := cx.2.1
  have hG0 := hG
  have hGk : ∀ {H : Heap} {locs : List Loc}, va_S A s.heap H locs → GE g s H := fun hS => hG0.keptS hAb hS
  have hSb : ∀ {H : Heap} {locs : List Loc}, va_S A s.heap H locs → va_S (fun a => g.1 ≤ a) s.heap H locs := fun hS => ⟨hS.1, fun q h1 h2 => hS.2.1 q h1 (fun z => h2 (hAb q z)), fun l hl => hAb _ (hS.2.2 l hl)⟩
  have hS : va_S A s.heap s.heap [] := va_S.rf
  have hrt : ∀ (u : Nat → Nat) (pc : Nat) (ls : Array Slot) (x_t_faultKind : Int32) (x_t_faultPlace : Int32) (x_t_at : Int32) (x_t_begin : Int32) (x_t_token : Int32) (x_t_value : Int32) (x_t_bad : Int32) (H : Heap) (locs : List Loc), decode cX8_passes pc = .ok (.return_, 1) → some (x_t_faultKind, x_t_faultPlace, x_t_at, x_t_begin, x_t_token, x_t_value, x_t_bad) = some (o_t_faultKind, o_t_faultPlace, o_t_at, o_t_begin, o_t_token, o_t_value, o_t_bad) → va_P g.2.1 vwCl [((a_t 0), .inr (7, [.ref (a_t 1), .ref (a_t 2), .int t_acted, .ref (a_t 4), .ref (a_t 5), .ref (a_t 6), .ref (a_t 7), .ref (a_t 8), .ref (a_t 9), .int t_taped, .int x_t_faultKind, .int x_t_faultPlace, .int x_t_at, .int x_t_begin, .int x_t_token, .int x_t_value, .int x_t_bad, .ref (a_t 18), .ref (a_t 19), .ref (a_t 20), .int t_wide, .int t_lost, .ref (a_t 23), .long t_det, .ref (a_t 25), .int t_mask, .int t_mode, .int t_wanted, .int t_orders, .int t_foundAt, .long t_foundBy, .ref (a_t 32), .ref (a_t 33), .int t_unlikes, .ref (a_t 35), .ref (a_t 36)])), ((a_t 9), .inl (g.2.2.1 0, 600, .inl t_tape))] H → va_D A [((a_t 0), .inr (7, [.ref (a_t 1), .ref (a_t 2), .int t_acted, .ref (a_t 4), .ref (a_t 5), .ref (a_t 6), .ref (a_t 7), .ref (a_t 8), .ref (a_t 9), .int t_taped, .int x_t_faultKind, .int x_t_faultPlace, .int x_t_at, .int x_t_begin, .int x_t_token, .int x_t_value, .int x_t_bad, .ref (a_t 18), .ref (a_t 19), .ref (a_t 20), .int t_wide, .int t_lost, .ref (a_t 23), .long t_det, .ref (a_t 25), .int t_mask, .int t_mode, .int t_wanted, .int t_orders, .int t_foundAt, .long t_foundBy, .ref (a_t 32), .ref (a_t 33), .int t_unlikes, .ref (a_t 35), .ref (a_t 36)])), ((a_t 9), .inl (g.2.2.1 0, 600, .inl t_tape))] → va_S A s.heap H locs → W p l e ⟨3, 0, 0, 67⟩ s m args below meth c H locs 0 0 Q (F0 m pc ls []) := by
    intro u pc ls x_t_faultKind x_t_faultPlace x_t_at x_t_begin x_t_token x_t_value x_t_bad H locs hd h hP hD hS
    cases h
    exact hret u _ _ _ _ hd hP hD hS
  have w9 : ∀ (t_faultKind : Int32) (t_faultPlace : Int32) (t_at : Int32) (t_begin : Int32) (t_token : Int32) (t_value : Int32) (t_bad : Int32) (H : Heap) (locs : List Loc), va_P g.2.1 vwCl [((a_t 0), .inr (7, [.ref (a_t 1), .ref (a_t 2), .int t_acted, .ref (a_t 4), .ref (a_t 5), .ref (a_t 6), .ref (a_t 7), .ref (a_t 8), .ref (a_t 9), .int t_taped, .int t_faultKind, .int t_faultPlace, .int t_at, .int t_begin, .int t_token, .int t_value, .int t_bad, .ref (a_t 18), .ref (a_t 19), .ref (a_t 20), .int t_wide, .int t_lost, .ref (a_t 23), .long t_det, .ref (a_t 25), .int t_mask, .int t_mode, .int t_wanted, .int t_orders, .int t_foundAt, .long t_foundBy, .ref (a_t 32), .ref (a_t 33), .int t_unlikes, .ref (a_t 35), .ref (a_t 36)])), ((a_t 9), .inl (g.2.2.1 0, 600, .inl t_tape))] H → va_D A [((a_t 0), .inr (7, [.ref (a_t 1), .ref (a_t 2), .int t_acted, .ref (a_t 4), .ref (a_t 5), .ref (a_t 6), .ref (a_t 7), .ref (a_t 8), .ref (a_t 9), .int t_taped, .int t_faultKind, .int t_faultPlace, .int t_at, .int t_begin, .int t_token, .int t_value, .int t_bad, .ref (a_t 18), .ref (a_t 19), .ref (a_t 20), .int t_wide, .int t_lost, .ref (a_t 23), .long t_det, .ref (a_t 25), .int t_mask, .int t_mode, .int t_wanted, .int t_orders, .int t_foundAt, .long t_foundBy, .ref (a_t 32), .ref (a_t 33), .int t_unlikes, .ref (a_t 35), .ref (a_t 36)])), ((a_t 9), .inl (g.2.2.1 0, 600, .inl t_tape))] → va_S A s.heap H locs → ∀ (ls : Array Slot), lv_has ls 2 [(0, .ref ((a_t 0)))] → fX8_passes_9  t_tape t_taped t_faultKind t_faultPlace t_at t_begin t_token t_value t_bad = some (o_t_faultKind, o_t_faultPlace, o_t_at, o_t_begin, o_t_token, o_t_value, o_t_bad) → W p l e ⟨3, 0, 0, 67⟩ s m args below meth c H locs 0 0 Q (F0 m 9 ls []) := by
    intro t_faultKind t_faultPlace t_at t_begin t_token t_value t_bad H locs hP hD hS ls hl h
    unfold fX8_passes_9 at h
    have hG := hGk hS
    refine lv_aload_n hx hb dX8_passes_9 rfl (lv_at hl 0 rfl) ?_
    refine xa_get (C := RX8) (T := TX8) (N := 36) cx hG hP 0 rfl rfl uX8 16 (by decide) lf_X8_108 rfl dX8_passes_10 ?_
    refine lv_if_ne (tgt := 20) hx hb dX8_passes_13 (by decide) (fun c7 => ?_) (fun c7 => ?_)
    · have h := itn c7 h
      exact hrt (fun _ => 0) _ _ t_faultKind t_faultPlace t_at t_begin t_token t_value t_bad _ _ dX8_passes_20 h (hP.sub [0, 1] rfl) (hD.sub [0, 1] (by decide) rfl) hS
    · have h := itp c7 h
      refine lv_aload_n hx hb dX8_passes_16 rfl (lv_at hl 0 rfl) ?_
      obtain ⟨w9, w10, w11, w12, hr8, h⟩ := ob4_out h
      refine rw_v (WN := fun u13 => [((a_t 0), .inr (7, [.ref (a_t 1), .ref (a_t 2), .int t_acted, .ref (a_t 4), .ref (a_t 5), .ref (a_t 6), .ref (a_t 7), .ref (a_t 8), .ref (a_t 9), .int t_taped, .int t_faultKind, .int t_faultPlace, .int w9, .int w10, .int w11, .int w12, .int t_bad, .ref (a_t 18), .ref (a_t 19), .ref (a_t 20), .int t_wide, .int t_lost, .ref (a_t 23), .long t_det, .ref (a_t 25), .int t_mask, .int t_mode, .int t_wanted, .int t_orders, .int t_foundAt, .long t_foundBy, .ref (a_t 32), .ref (a_t 33), .int t_unlikes, .ref (a_t 35), .ref (a_t 36)])), ((a_t 9), .inl (g.2.2.1 0, 600, .inl t_tape))]) (wr := []) (runV (As := []) (rest := []) cx hl.1 (ctX8_next l g H.size a_t t_acted t_taped t_faultKind t_faultPlace t_at t_begin t_token t_value t_bad t_wide t_lost t_det t_mask t_mode t_wanted t_orders t_foundAt t_foundBy t_unlikes t_tape w9 w10 w11 w12 hr8) kmX8_next kvX8_next lm_X8_129 ⟨rfl, rfl⟩ ⟨Nat.le_of_ble_eq_true rfl, Nat.le_of_ble_eq_true rfl⟩ (rwV (q0 := 0) (ci := 7) hG (hP.sub [0, 1] rfl) (hD.sub [0, 1] (by decide) rfl) hAb hb0 hS hP rfl rfl) rfl rfl (Nat.le_of_ble_eq_true rfl) dX8_passes_17 ⟨Nat.le_of_ble_eq_true rfl, Nat.le_of_ble_eq_true rfl⟩) hP hD hS hA [0, 1] [] rfl rfl (by decide) (by decide) (fun _ => rfl) (fun u13 H locs hP hD hS => ?_)
      have hG := hGk hS
      exact hrt (fun _ => 0) _ _ t_faultKind t_faultPlace w9 w10 w11 w12 t_bad _ _ dX8_passes_20 h (hP.sub [0, 1] rfl) (hD.sub [0, 1] (by decide) rfl) hS
  unfold fX8_passes at h
  refine lv_iload_n hx hb dX8_passes_0 rfl (lv_at hl 1 rfl) ?_
  refine lv_if_ne (tgt := 9) hx hb dX8_passes_1 (by decide) (fun c1 => ?_) (fun c1 => ?_)
  · have h := itn c1 h
    exact w9 t_faultKind t_faultPlace t_at t_begin t_token t_value t_bad _ _ hP hD hS _ (lv_sub hl [0] rfl) h
  · have h := itp c1 h
    refine lv_aload_n hx hb dX8_passes_4 rfl (lv_at hl 0 rfl) ?_
    refine lv_iconst (v := 1) hx hb dX8_passes_5 (by decide) ?_
    obtain ⟨w3, w4, w5, hr2, h⟩ := ob3_out h
    refine rw_v (WN := fun u6 => [((a_t 9), .inl (g.2.2.1 0, 600, .inl t_tape)), ((a_t 0), .inr (7, [.ref (a_t 1), .ref (a_t 2), .int t_acted, .ref (a_t 4), .ref (a_t 5), .ref (a_t 6), .ref (a_t 7), .ref (a_t 8), .ref (a_t 9), .int t_taped, .int w3, .int w4, .int t_at, .int t_begin, .int t_token, .int t_value, .int w5, .ref (a_t 18), .ref (a_t 19), .ref (a_t 20), .int t_wide, .int t_lost, .ref (a_t 23), .long t_det, .ref (a_t 25), .int t_mask, .int t_mode, .int t_wanted, .int t_orders, .int t_foundAt, .long t_foundBy, .ref (a_t 32), .ref (a_t 33), .int t_unlikes, .ref (a_t 35), .ref (a_t 36)]))]) (wr := [((a_t 9), .inl (g.2.2.1 0, 600, .inl t_tape))]) (runV (As := [.int (1)]) (rest := []) cx hl.1 (ctX8_faults l g s.heap.size a_t t_acted t_taped t_faultKind t_faultPlace t_at t_begin t_token t_value t_bad t_wide t_lost t_det t_mask t_mode t_wanted t_orders t_foundAt t_foundBy t_unlikes (1) w3 w4 w5 hr2) kmX8_faults kvX8_faults lm_X8_125 ⟨rfl, rfl⟩ ⟨Nat.le_of_ble_eq_true rfl, Nat.le_of_ble_eq_true rfl⟩ (rwV (q0 := 0) (ci := 7) hG (hP.sub [0] rfl) (hD.sub [0] (by decide) rfl) hAb hb0 hS hP rfl rfl) rfl rfl (Nat.le_of_ble_eq_true rfl) dX8_passes_6 ⟨Nat.le_of_ble_eq_true rfl, Nat.le_of_ble_eq_true rfl⟩) hP hD hS hA [0] [1] rfl rfl (by decide) (by decide) (fun _ => rfl) (fun u6 H locs hP hD hS => ?_)
    have hG := hGk hS
    exact w9 w3 w4 t_at t_begin t_token t_value w5 _ _ (hP.sub [1, 0] rfl) (hD.sub [1, 0] (by decide) rfl) hS _ (lv_sub hl [0] rfl) h
-- X8_reads
theorem dX8_reads_0 : decode cX8_reads 0 = .ok (.aload_n 0, 1) := by decide +kernel
theorem dX8_reads_1 : decode cX8_reads 1 = .ok (.getfield 97, 3) := by decide +kernel
theorem dX8_reads_4 : decode cX8_reads 4 = .ok (.istore_n 3, 1) := by decide +kernel
theorem dX8_reads_5 : decode cX8_reads 5 = .ok (.aload_n 0, 1) := by decide +kernel
theorem dX8_reads_6 : decode cX8_reads 6 = .ok (.getfield 108, 3) := by decide +kernel
theorem dX8_reads_9 : decode cX8_reads 9 = .ok (.ifCond .eq 5, 3) := by decide +kernel
theorem dX8_reads_12 : decode cX8_reads 12 = .ok (.iload_n 1, 1) := by decide +kernel
theorem dX8_reads_13 : decode cX8_reads 13 = .ok (.ireturn, 1) := by decide +kernel
theorem dX8_reads_14 : decode cX8_reads 14 = .ok (.aload_n 0, 1) := by decide +kernel
theorem dX8_reads_15 : decode cX8_reads 15 = .ok (.getfield 100, 3) := by decide +kernel
theorem dX8_reads_18 : decode cX8_reads 18 = .ok (.iconst 2, 1) := by decide +kernel
theorem dX8_reads_19 : decode cX8_reads 19 = .ok (.if_icmp .eq 11, 3) := by decide +kernel
theorem dX8_reads_22 : decode cX8_reads 22 = .ok (.aload_n 0, 1) := by decide +kernel
theorem dX8_reads_23 : decode cX8_reads 23 = .ok (.iconst 1, 1) := by decide +kernel
theorem dX8_reads_24 : decode cX8_reads 24 = .ok (.invokevirtual 125, 3) := by decide +kernel
theorem dX8_reads_27 : decode cX8_reads 27 = .ok (.goto 20, 3) := by decide +kernel
theorem dX8_reads_30 : decode cX8_reads 30 = .ok (.iload_n 3, 1) := by decide +kernel
theorem dX8_reads_31 : decode cX8_reads 31 = .ok (.i2l, 1) := by decide +kernel
theorem dX8_reads_32 : decode cX8_reads 32 = .ok (.iload_n 1, 1) := by decide +kernel
theorem dX8_reads_33 : decode cX8_reads 33 = .ok (.i2l, 1) := by decide +kernel
theorem dX8_reads_34 : decode cX8_reads 34 = .ok (.iload_n 2, 1) := by decide +kernel
theorem dX8_reads_35 : decode cX8_reads 35 = .ok (.i2l, 1) := by decide +kernel
theorem dX8_reads_36 : decode cX8_reads 36 = .ok (.invokestatic 83, 3) := by decide +kernel
theorem dX8_reads_39 : decode cX8_reads 39 = .ok (.ifCond .ne 8, 3) := by decide +kernel
theorem dX8_reads_42 : decode cX8_reads 42 = .ok (.aload_n 0, 1) := by decide +kernel
theorem dX8_reads_43 : decode cX8_reads 43 = .ok (.iconst 2, 1) := by decide +kernel
theorem dX8_reads_44 : decode cX8_reads 44 = .ok (.invokevirtual 125, 3) := by decide +kernel
theorem dX8_reads_47 : decode cX8_reads 47 = .ok (.aload_n 0, 1) := by decide +kernel
theorem dX8_reads_48 : decode cX8_reads 48 = .ok (.iconst 1, 1) := by decide +kernel
theorem dX8_reads_49 : decode cX8_reads 49 = .ok (.invokevirtual 132, 3) := by decide +kernel
theorem dX8_reads_52 : decode cX8_reads 52 = .ok (.iload_n 3, 1) := by decide +kernel
theorem dX8_reads_53 : decode cX8_reads 53 = .ok (.ireturn, 1) := by decide +kernel
noncomputable def fX8_reads_47  (t_tape : Nat → Int32) (t_taped : Int32) (t_faultKind : Int32) (t_faultPlace : Int32) (t_at : Int32) (t_begin : Int32) (t_token : Int32) (t_value : Int32) (t_bad : Int32) (v3 : Int32) : Option (Int32 × Int32 × Int32 × Int32 × Int32 × Int32 × Int32 × Int32) := ob7 (fX8_passes t_tape t_taped t_faultKind t_faultPlace t_at t_begin t_token t_value t_bad 1) fun w16 w17 w18 w19 w20 w21 w22 => some (v3, w16, w17, w18, w19, w20, w21, w22)
noncomputable def fX8_reads  (t_tape : Nat → Int32) (t_taped : Int32) (t_faultKind : Int32) (t_faultPlace : Int32) (t_at : Int32) (t_begin : Int32) (t_token : Int32) (t_value : Int32) (t_bad : Int32) (v1 : Int32) (v2 : Int32) : Option (Int32 × Int32 × Int32 × Int32 × Int32 × Int32 × Int32 × Int32) := (if t_bad = 0 then (if t_token = 2 then (if (fX8_in t_value.toInt64 v1.toInt64 v2.toInt64) = 0 then ob3 (fX8_faults t_faultKind t_faultPlace t_begin t_bad 2) fun w6 w7 w8 => fX8_reads_47 t_tape t_taped w6 w7 t_at t_begin t_token t_value w8 t_value else fX8_reads_47 t_tape t_taped t_faultKind t_faultPlace t_at t_begin t_token t_value t_bad t_value) else ob3 (fX8_faults t_faultKind t_faultPlace t_begin t_bad 1) fun w11 w12 w13 => fX8_reads_47 t_tape t_taped w11 w12 t_at t_begin t_token t_value w13 t_value) else some (v1, t_faultKind, t_faultPlace, t_at, t_begin, t_token, t_value, t_bad))
set_option maxHeartbeats 4000000 in
set_option maxRecDepth 100000 in
theorem ctX8_reads (l : Launch) (g : GT) (sz : Nat) (a_t : Nat → Nat) (t_acted : Int32) (t_taped : Int32) (t_faultKind : Int32) (t_faultPlace : Int32) (t_at : Int32) (t_begin : Int32) (t_token : Int32) (t_value : Int32) (t_bad : Int32) (t_wide : Int32) (t_lost : Int32) (t_det : Int64) (t_mask : Int32) (t_mode : Int32) (t_wanted : Int32) (t_orders : Int32) (t_foundAt : Int32) (t_foundBy : Int64) (t_unlikes : Int32) (t_tape : Nat → Int32) (v1 : Int32) (v2 : Int32) (o : Int32) (o_t_faultKind : Int32) (o_t_faultPlace : Int32) (o_t_at : Int32) (o_t_begin : Int32) (o_t_token : Int32) (o_t_value : Int32) (o_t_bad : Int32) (h : fX8_reads t_tape t_taped t_faultKind t_faultPlace t_at t_begin t_token t_value t_bad v1 v2 = some (o, o_t_faultKind, o_t_faultPlace, o_t_at, o_t_begin, o_t_token, o_t_value, o_t_bad)) : Met l yX8_reads (Cond.code yX8_reads cX8_reads 4 (some .int) :: Tw) ⟨4, 0, 0, 88⟩ (va_Pc [.ref ((a_t 0)), .int v1, .int v2] (rwB g [((a_t 0), .inr (7, [.ref (a_t 1), .ref (a_t 2), .int t_acted, .ref (a_t 4), .ref (a_t 5), .ref (a_t 6), .ref (a_t 7), .ref (a_t 8), .ref (a_t 9), .int t_taped, .int t_faultKind, .int t_faultPlace, .int t_at, .int t_begin, .int t_token, .int t_value, .int t_bad, .ref (a_t 18), .ref (a_t 19), .ref (a_t 20), .int t_wide, .int t_lost, .ref (a_t 23), .long t_det, .ref (a_t 25), .int t_mask, .int t_mode, .int t_wanted, .int t_orders, .int t_foundAt, .long t_foundBy, .ref (a_t 32), .ref (a_t 33), .int t_unlikes, .ref (a_t 35), .ref (a_t 36)])), ((a_t 9), .inl (g.2.2.1 0, 600, .inl t_tape))] sz)) (va_Qi (fun x (_ : Nat → Nat) => x = o) (fun u => rwE g (va_A [((a_t 0), .inr (7, [.ref (a_t 1), .ref (a_t 2), .int t_acted, .ref (a_t 4), .ref (a_t 5), .ref (a_t 6), .ref (a_t 7), .ref (a_t 8), .ref (a_t 9), .int t_taped, .int t_faultKind, .int t_faultPlace, .int t_at, .int t_begin, .int t_token, .int t_value, .int t_bad, .ref (a_t 18), .ref (a_t 19), .ref (a_t 20), .int t_wide, .int t_lost, .ref (a_t 23), .long t_det, .ref (a_t 25), .int t_mask, .int t_mode, .int t_wanted, .int t_orders, .int t_foundAt, .long t_foundBy, .ref (a_t 32), .ref (a_t 33), .int t_unlikes, .ref (a_t 35), .ref (a_t 36)])), ((a_t 9), .inl (g.2.2.1 0, 600, .inl t_tape))] sz) [((a_t 0), .inr (7, [.ref (a_t 1), .ref (a_t 2), .int t_acted, .ref (a_t 4), .ref (a_t 5), .ref (a_t 6), .ref (a_t 7), .ref (a_t 8), .ref (a_t 9), .int t_taped, .int o_t_faultKind, .int o_t_faultPlace, .int o_t_at, .int o_t_begin, .int o_t_token, .int o_t_value, .int o_t_bad, .ref (a_t 18), .ref (a_t 19), .ref (a_t 20), .int t_wide, .int t_lost, .ref (a_t 23), .long t_det, .ref (a_t 25), .int t_mask, .int t_mode, .int t_wanted, .int t_orders, .int t_foundAt, .long t_foundBy, .ref (a_t 32), .ref (a_t 33), .int t_unlikes, .ref (a_t 35), .ref (a_t 36)])), ((a_t 9), .inl (g.2.2.1 0, 600, .inl t_tape))]) (va_A [((a_t 0), .inr (7, [.ref (a_t 1), .ref (a_t 2), .int t_acted, .ref (a_t 4), .ref (a_t 5), .ref (a_t 6), .ref (a_t 7), .ref (a_t 8), .ref (a_t 9), .int t_taped, .int t_faultKind, .int t_faultPlace, .int t_at, .int t_begin, .int t_token, .int t_value, .int t_bad, .ref (a_t 18), .ref (a_t 19), .ref (a_t 20), .int t_wide, .int t_lost, .ref (a_t 23), .long t_det, .ref (a_t 25), .int t_mask, .int t_mode, .int t_wanted, .int t_orders, .int t_foundAt, .long t_foundBy, .ref (a_t 32), .ref (a_t 33), .int t_unlikes, .ref (a_t 35), .ref (a_t 36)])), ((a_t 9), .inl (g.2.2.1 0, 600, .inl t_tape))] sz)) 0 0 (va_A [((a_t 0), .inr (7, [.ref (a_t 1), .ref (a_t 2), .int t_acted, .ref (a_t 4), .ref (a_t 5), .ref (a_t 6), .ref (a_t 7), .ref (a_t 8), .ref (a_t 9), .int t_taped, .int t_faultKind, .int t_faultPlace, .int t_at, .int t_begin, .int t_token, .int t_value, .int t_bad, .ref (a_t 18), .ref (a_t 19), .ref (a_t 20), .int t_wide, .int t_lost, .ref (a_t 23), .long t_det, .ref (a_t 25), .int t_mask, .int t_mode, .int t_wanted, .int t_orders, .int t_foundAt, .long t_foundBy, .ref (a_t 32), .ref (a_t 33), .int t_unlikes, .ref (a_t 35), .ref (a_t 36)])), ((a_t 9), .inl (g.2.2.1 0, 600, .inl t_tape))] sz) := by
  refine rw_meti (by decide) (Nat.le_of_ble_eq_true rfl) (lv0 := [(0, .ref ((a_t 0))), (1, .int v1), (2, .int v2)]) rfl ?_
  intro p e s m args below meth c ls Q A cx hret hG hAb hb0 hA hP hD hl
  have hx := cx.1
  have hb := cx.2.1
  have hG0 := hG
  have hGk : ∀ {H : Heap} {locs : List Loc}, va_S A s.heap H locs → GE g s H := fun hS => hG0.keptS hAb hS
  have hSb : ∀ {H : Heap} {locs : List Loc}, va_S A s.heap H locs → va_S (fun a => g.1 ≤ a) s.heap H locs := fun hS => ⟨hS.1, fun q h1 h2 => hS.2.1 q h1 (fun z => h2 (hAb q z)), fun l hl => hAb _ (hS.2.2 l hl)⟩
  have hS : va_S A s.heap s.heap [] := va_S.rf
  have hrt : ∀ (u : Nat → Nat) (pc : Nat) (ls : Array Slot) (v : Int32) (x_t_faultKind : Int32) (x_t_faultPlace : Int32) (x_t_at : Int32) (x_t_begin : Int32) (x_t_token : Int32) (x_t_value : Int32) (x_t_bad : Int32) (H : Heap) (locs : List Loc), decode cX8_reads pc = .ok (.ireturn, 1) → some (v, x_t_faultKind, x_t_faultPlace, x_t_at, x_t_begin, x_t_token, x_t_value, x_t_bad) = some (o, o_t_faultKind, o_t_faultPlace, o_t_at, o_t_begin, o_t_token, o_t_value, o_t_bad) → va_P g.2.1 vwCl [((a_t 0), .inr (7, [.ref (a_t 1), .ref (a_t 2), .int t_acted, .ref (a_t 4), .ref (a_t 5), .ref (a_t 6), .ref (a_t 7), .ref (a_t 8), .ref (a_t 9), .int t_taped, .int x_t_faultKind, .int x_t_faultPlace, .int x_t_at, .int x_t_begin, .int x_t_token, .int x_t_value, .int x_t_bad, .ref (a_t 18), .ref (a_t 19), .ref (a_t 20), .int t_wide, .int t_lost, .ref (a_t 23), .long t_det, .ref (a_t 25), .int t_mask, .int t_mode, .int t_wanted, .int t_orders, .int t_foundAt, .long t_foundBy, .ref (a_t 32), .ref (a_t 33), .int t_unlikes, .ref (a_t 35), .ref (a_t 36)])), ((a_t 9), .inl (g.2.2.1 0, 600, .inl t_tape))] H → va_D A [((a_t 0), .inr (7, [.ref (a_t 1), .ref (a_t 2), .int t_acted, .ref (a_t 4), .ref (a_t 5), .ref (a_t 6), .ref (a_t 7), .ref (a_t 8), .ref (a_t 9), .int t_taped, .int x_t_faultKind, .int x_t_faultPlace, .int x_t_at, .int x_t_begin, .int x_t_token, .int x_t_value, .int x_t_bad, .ref (a_t 18), .ref (a_t 19), .ref (a_t 20), .int t_wide, .int t_lost, .ref (a_t 23), .long t_det, .ref (a_t 25), .int t_mask, .int t_mode, .int t_wanted, .int t_orders, .int t_foundAt, .long t_foundBy, .ref (a_t 32), .ref (a_t 33), .int t_unlikes, .ref (a_t 35), .ref (a_t 36)])), ((a_t 9), .inl (g.2.2.1 0, 600, .inl t_tape))] → va_S A s.heap H locs → W p l e ⟨4, 0, 0, 88⟩ s m args below meth c H locs 0 0 Q (F0 m pc ls [.int v]) := by
    intro u pc ls v x_t_faultKind x_t_faultPlace x_t_at x_t_begin x_t_token x_t_value x_t_bad H locs hd h hP hD hS
    cases h
    exact hret u _ _ _ _ _ hd rfl hP hD hS
  have w47 : ∀ (t_faultKind : Int32) (t_faultPlace : Int32) (t_at : Int32) (t_begin : Int32) (t_token : Int32) (t_value : Int32) (t_bad : Int32) (v3 : Int32) (H : Heap) (locs : List Loc), va_P g.2.1 vwCl [((a_t 0), .inr (7, [.ref (a_t 1), .ref (a_t 2), .int t_acted, .ref (a_t 4), .ref (a_t 5), .ref (a_t 6), .ref (a_t 7), .ref (a_t 8), .ref (a_t 9), .int t_taped, .int t_faultKind, .int t_faultPlace, .int t_at, .int t_begin, .int t_token, .int t_value, .int t_bad, .ref (a_t 18), .ref (a_t 19), .ref (a_t 20), .int t_wide, .int t_lost, .ref (a_t 23), .long t_det, .ref (a_t 25), .int t_mask, .int t_mode, .int t_wanted, .int t_orders, .int t_foundAt, .long t_foundBy, .ref (a_t 32), .ref (a_t 33), .int t_unlikes, .ref (a_t 35), .ref (a_t 36)])), ((a_t 9), .inl (g.2.2.1 0, 600, .inl t_tape))] H → va_D A [((a_t 0), .inr (7, [.ref (a_t 1), .ref (a_t 2), .int t_acted, .ref (a_t 4), .ref (a_t 5), .ref (a_t 6), .ref (a_t 7), .ref (a_t 8), .ref (a_t 9), .int t_taped, .int t_faultKind, .int t_faultPlace, .int t_at, .int t_begin, .int t_token, .int t_value, .int t_bad, .ref (a_t 18), .ref (a_t 19), .ref (a_t 20), .int t_wide, .int t_lost, .ref (a_t 23), .long t_det, .ref (a_t 25), .int t_mask, .int t_mode, .int t_wanted, .int t_orders, .int t_foundAt, .long t_foundBy, .ref (a_t 32), .ref (a_t 33), .int t_unlikes, .ref (a_t 35), .ref (a_t 36)])), ((a_t 9), .inl (g.2.2.1 0, 600, .inl t_tape))] → va_S A s.heap H locs → ∀ (ls : Array Slot), lv_has ls 4 [(0, .ref ((a_t 0))), (3, .int v3)] → fX8_reads_47  t_tape t_taped t_faultKind t_faultPlace t_at t_begin t_token t_value t_bad v3 = some (o, o_t_faultKind, o_t_faultPlace, o_t_at, o_t_begin, o_t_token, o_t_value, o_t_bad) → W p l e ⟨4, 0, 0, 88⟩ s m args below meth c H locs 0 0 Q (F0 m 47 ls []) := by
    intro t_faultKind t_faultPlace t_at t_begin t_token t_value t_bad v3 H locs hP hD hS ls hl h
    unfold fX8_reads_47 at h
    have hG := hGk hS
    refine lv_aload_n hx hb dX8_reads_47 rfl (lv_at hl 0 rfl) ?_
    refine lv_iconst (v := 1) hx hb dX8_reads_48 (by decide) ?_
    obtain ⟨w16, w17, w18, w19, w20, w21, w22, hr15, h⟩ := ob7_out h
    refine rw_v (WN := fun u23 => [((a_t 0), .inr (7, [.ref (a_t 1), .ref (a_t 2), .int t_acted, .ref (a_t 4), .ref (a_t 5), .ref (a_t 6), .ref (a_t 7), .ref (a_t 8), .ref (a_t 9), .int t_taped, .int w16, .int w17, .int w18, .int w19, .int w20, .int w21, .int w22, .ref (a_t 18), .ref (a_t 19), .ref (a_t 20), .int t_wide, .int t_lost, .ref (a_t 23), .long t_det, .ref (a_t 25), .int t_mask, .int t_mode, .int t_wanted, .int t_orders, .int t_foundAt, .long t_foundBy, .ref (a_t 32), .ref (a_t 33), .int t_unlikes, .ref (a_t 35), .ref (a_t 36)])), ((a_t 9), .inl (g.2.2.1 0, 600, .inl t_tape))]) (wr := []) (runV (As := [.int (1)]) (rest := []) cx hl.1 (ctX8_passes l g H.size a_t t_acted t_taped t_faultKind t_faultPlace t_at t_begin t_token t_value t_bad t_wide t_lost t_det t_mask t_mode t_wanted t_orders t_foundAt t_foundBy t_unlikes t_tape (1) w16 w17 w18 w19 w20 w21 w22 hr15) kmX8_passes kvX8_passes lm_X8_132 ⟨rfl, rfl⟩ ⟨Nat.le_of_ble_eq_true rfl, Nat.le_of_ble_eq_true rfl⟩ (rwV (q0 := 0) (ci := 7) hG (hP.sub [0, 1] rfl) (hD.sub [0, 1] (by decide) rfl) hAb hb0 hS hP rfl rfl) rfl rfl (Nat.le_of_ble_eq_true rfl) dX8_reads_49 ⟨Nat.le_of_ble_eq_true rfl, Nat.le_of_ble_eq_true rfl⟩) hP hD hS hA [0, 1] [] rfl rfl (by decide) (by decide) (fun _ => rfl) (fun u23 H locs hP hD hS => ?_)
    have hG := hGk hS
    refine lv_iload_n hx hb dX8_reads_52 rfl (lv_at hl 1 rfl) ?_
    exact hrt (fun _ => 0) _ _ v3 w16 w17 w18 w19 w20 w21 w22 _ _ dX8_reads_53 h (hP.sub [0, 1] rfl) (hD.sub [0, 1] (by decide) rfl) hS
  unfold fX8_reads at h
  refine lv_aload_n hx hb dX8_reads_0 rfl (lv_at hl 0 rfl) ?_
  refine xa_get (C := RX8) (T := TX8) (N := 36) cx hG hP 0 rfl rfl uX8 15 (by decide) lf_X8_97 rfl dX8_reads_1 ?_
  refine lv_istore_n (lv' := [(3, .int t_value), (0, .ref ((a_t 0))), (1, .int v1), (2, .int v2)]) hx hb dX8_reads_4 rfl hl (by decide) rfl (fun ls hl => ?_)
  refine lv_aload_n hx hb dX8_reads_5 rfl (lv_at hl 1 rfl) ?_
  refine xa_get (C := RX8) (T := TX8) (N := 36) cx hG hP 0 rfl rfl uX8 16 (by decide) lf_X8_108 rfl dX8_reads_6 ?_
  refine lv_if_eq (tgt := 14) hx hb dX8_reads_9 (by decide) (fun c1 => ?_) (fun c1 => ?_)
  · have h := itp c1 h
    refine lv_aload_n hx hb dX8_reads_14 rfl (lv_at hl 1 rfl) ?_
    refine xa_get (C := RX8) (T := TX8) (N := 36) cx hG hP 0 rfl rfl uX8 14 (by decide) lf_X8_100 rfl dX8_reads_15 ?_
    refine lv_iconst (v := 2) hx hb dX8_reads_18 (by decide) ?_
    refine lv_icmp_eq (tgt := 30) hx hb dX8_reads_19 (by decide) (fun c2 => ?_) (fun c2 => ?_)
    · have h := itp c2 h
      refine lv_iload_n hx hb dX8_reads_30 rfl (lv_at hl 0 rfl) ?_
      refine lv_i2l (v := t_value.toInt64) hx hb dX8_reads_31 rfl ?_
      refine lv_iload_n hx hb dX8_reads_32 rfl (lv_at hl 2 rfl) ?_
      refine lv_i2l (v := v1.toInt64) hx hb dX8_reads_33 rfl ?_
      refine lv_iload_n hx hb dX8_reads_34 rfl (lv_at hl 3 rfl) ?_
      refine lv_i2l (v := v2.toInt64) hx hb dX8_reads_35 rfl ?_
      refine ro_z (runS (As := [.long t_value.toInt64, .long v1.toInt64, .long v2.toInt64]) (rest := []) cx hl.1 (ctX8_in l g t_value.toInt64 v1.toInt64 v2.toInt64 (fX8_in t_value.toInt64 v1.toInt64 v2.toInt64) rfl) kmX8_in ksX8_in lm_X8_83 ⟨rfl, rfl⟩ ⟨Nat.le_of_ble_eq_true rfl, Nat.le_of_ble_eq_true rfl⟩ (roS hG (hP.sub [] rfl)) rfl rfl (Nat.le_of_ble_eq_true rfl) dX8_reads_36 ⟨Nat.le_of_ble_eq_true rfl, Nat.le_of_ble_eq_true rfl⟩) (fun hz3 => ?_)
      refine lv_if_ne (tgt := 47) hx hb dX8_reads_39 (by decide) (fun c4 => ?_) (fun c4 => ?_)
      · have h := itn c4 h
        exact w47 t_faultKind t_faultPlace t_at t_begin t_token t_value t_bad t_value _ _ hP hD hS _ (lv_sub hl [1, 0] rfl) h
      · have h := itp c4 h
        refine lv_aload_n hx hb dX8_reads_42 rfl (lv_at hl 1 rfl) ?_
        refine lv_iconst (v := 2) hx hb dX8_reads_43 (by decide) ?_
        obtain ⟨w6, w7, w8, hr5, h⟩ := ob3_out h
        refine rw_v (WN := fun u9 => [((a_t 9), .inl (g.2.2.1 0, 600, .inl t_tape)), ((a_t 0), .inr (7, [.ref (a_t 1), .ref (a_t 2), .int t_acted, .ref (a_t 4), .ref (a_t 5), .ref (a_t 6), .ref (a_t 7), .ref (a_t 8), .ref (a_t 9), .int t_taped, .int w6, .int w7, .int t_at, .int t_begin, .int t_token, .int t_value, .int w8, .ref (a_t 18), .ref (a_t 19), .ref (a_t 20), .int t_wide, .int t_lost, .ref (a_t 23), .long t_det, .ref (a_t 25), .int t_mask, .int t_mode, .int t_wanted, .int t_orders, .int t_foundAt, .long t_foundBy, .ref (a_t 32), .ref (a_t 33), .int t_unlikes, .ref (a_t 35), .ref (a_t 36)]))]) (wr := [((a_t 9), .inl (g.2.2.1 0, 600, .inl t_tape))]) (runV (As := [.int (2)]) (rest := []) cx hl.1 (ctX8_faults l g s.heap.size a_t t_acted t_taped t_faultKind t_faultPlace t_at t_begin t_token t_value t_bad t_wide t_lost t_det t_mask t_mode t_wanted t_orders t_foundAt t_foundBy t_unlikes (2) w6 w7 w8 hr5) kmX8_faults kvX8_faults lm_X8_125 ⟨rfl, rfl⟩ ⟨Nat.le_of_ble_eq_true rfl, Nat.le_of_ble_eq_true rfl⟩ (rwV (q0 := 0) (ci := 7) hG (hP.sub [0] rfl) (hD.sub [0] (by decide) rfl) hAb hb0 hS hP rfl rfl) rfl rfl (Nat.le_of_ble_eq_true rfl) dX8_reads_44 ⟨Nat.le_of_ble_eq_true rfl, Nat.le_of_ble_eq_true rfl⟩) hP hD hS hA [0] [1] rfl rfl (by decide) (by decide) (fun _ => rfl) (fun u9 H locs hP hD hS => ?_)
        have hG := hGk hS
        exact w47 w6 w7 t_at t_begin t_token t_value w8 t_value _ _ (hP.sub [1, 0] rfl) (hD.sub [1, 0] (by decide) rfl) hS _ (lv_sub hl [1, 0] rfl) h
    · have h := itn c2 h
      refine lv_aload_n hx hb dX8_reads_22 rfl (lv_at hl 1 rfl) ?_
      refine lv_iconst (v := 1) hx hb dX8_reads_23 (by decide) ?_
      obtain ⟨w11, w12, w13, hr10, h⟩ := ob3_out h
      refine rw_v (WN := fun u14 => [((a_t 9), .inl (g.2.2.1 0, 600, .inl t_tape)), ((a_t 0), .inr (7, [.ref (a_t 1), .ref (a_t 2), .int t_acted, .ref (a_t 4), .ref (a_t 5), .ref (a_t 6), .ref (a_t 7), .ref (a_t 8), .ref (a_t 9), .int t_taped, .int w11, .int w12, .int t_at, .int t_begin, .int t_token, .int t_value, .int w13, .ref (a_t 18), .ref (a_t 19), .ref (a_t 20), .int t_wide, .int t_lost, .ref (a_t 23), .long t_det, .ref (a_t 25), .int t_mask, .int t_mode, .int t_wanted, .int t_orders, .int t_foundAt, .long t_foundBy, .ref (a_t 32), .ref (a_t 33), .int t_unlikes, .ref (a_t 35), .ref (a_t 36)]))]) (wr := [((a_t 9), .inl (g.2.2.1 0, 600, .inl t_tape))]) (runV (As := [.int (1)]) (rest := []) cx hl.1 (ctX8_faults l g s.heap.size a_t t_acted t_taped t_faultKind t_faultPlace t_at t_begin t_token t_value t_bad t_wide t_lost t_det t_mask t_mode t_wanted t_orders t_foundAt t_foundBy t_unlikes (1) w11 w12 w13 hr10) kmX8_faults kvX8_faults lm_X8_125 ⟨rfl, rfl⟩ ⟨Nat.le_of_ble_eq_true rfl, Nat.le_of_ble_eq_true rfl⟩ (rwV (q0 := 0) (ci := 7) hG (hP.sub [0] rfl) (hD.sub [0] (by decide) rfl) hAb hb0 hS hP rfl rfl) rfl rfl (Nat.le_of_ble_eq_true rfl) dX8_reads_24 ⟨Nat.le_of_ble_eq_true rfl, Nat.le_of_ble_eq_true rfl⟩) hP hD hS hA [0] [1] rfl rfl (by decide) (by decide) (fun _ => rfl) (fun u14 H locs hP hD hS => ?_)
      have hG := hGk hS
      refine lv_goto (tgt := 47) hx hb dX8_reads_27 (by decide) ?_
      exact w47 w11 w12 t_at t_begin t_token t_value w13 t_value _ _ (hP.sub [1, 0] rfl) (hD.sub [1, 0] (by decide) rfl) hS _ (lv_sub hl [1, 0] rfl) h
  · have h := itn c1 h
    refine lv_iload_n hx hb dX8_reads_12 rfl (lv_at hl 2 rfl) ?_
    exact hrt (fun _ => 0) _ _ v1 t_faultKind t_faultPlace t_at t_begin t_token t_value t_bad _ _ dX8_reads_13 h (hP.sub [0, 1] rfl) (hD.sub [0, 1] (by decide) rfl) hS
-- X8_readsNamed
theorem dX8_readsNamed_0 : decode cX8_readsNamed 0 = .ok (.aload_n 0, 1) := by decide +kernel
theorem dX8_readsNamed_1 : decode cX8_readsNamed 1 = .ok (.aload_n 0, 1) := by decide +kernel
theorem dX8_readsNamed_2 : decode cX8_readsNamed 2 = .ok (.getfield 108, 3) := by decide +kernel
theorem dX8_readsNamed_5 : decode cX8_readsNamed 5 = .ok (.ifCond .ne 11, 3) := by decide +kernel
theorem dX8_readsNamed_8 : decode cX8_readsNamed 8 = .ok (.aload_n 0, 1) := by decide +kernel
theorem dX8_readsNamed_9 : decode cX8_readsNamed 9 = .ok (.aload_n 1, 1) := by decide +kernel
theorem dX8_readsNamed_10 : decode cX8_readsNamed 10 = .ok (.invokevirtual 136, 3) := by decide +kernel
theorem dX8_readsNamed_13 : decode cX8_readsNamed 13 = .ok (.ifCond .eq 7, 3) := by decide +kernel
theorem dX8_readsNamed_16 : decode cX8_readsNamed 16 = .ok (.iconst 1, 1) := by decide +kernel
theorem dX8_readsNamed_17 : decode cX8_readsNamed 17 = .ok (.goto 4, 3) := by decide +kernel
theorem dX8_readsNamed_20 : decode cX8_readsNamed 20 = .ok (.iconst 0, 1) := by decide +kernel
theorem dX8_readsNamed_21 : decode cX8_readsNamed 21 = .ok (.invokevirtual 132, 3) := by decide +kernel
theorem dX8_readsNamed_24 : decode cX8_readsNamed 24 = .ok (.aload_n 0, 1) := by decide +kernel
theorem dX8_readsNamed_25 : decode cX8_readsNamed 25 = .ok (.iload_n 2, 1) := by decide +kernel
theorem dX8_readsNamed_26 : decode cX8_readsNamed 26 = .ok (.iload_n 3, 1) := by decide +kernel
theorem dX8_readsNamed_27 : decode cX8_readsNamed 27 = .ok (.invokevirtual 140, 3) := by decide +kernel
theorem dX8_readsNamed_30 : decode cX8_readsNamed 30 = .ok (.ireturn, 1) := by decide +kernel
noncomputable def fX8_readsNamed_21  (t_tape : Nat → Int32) (t_taped : Int32) (t_faultKind : Int32) (t_faultPlace : Int32) (t_at : Int32) (t_begin : Int32) (t_token : Int32) (t_value : Int32) (t_bad : Int32) (v2 : Int32) (v3 : Int32) (z1 : Int32) : Option (Int32 × Int32 × Int32 × Int32 × Int32 × Int32 × Int32 × Int32) := ob7 (fX8_passes t_tape t_taped t_faultKind t_faultPlace t_at t_begin t_token t_value t_bad z1) fun w7 w8 w9 w10 w11 w12 w13 => ob8 (fX8_reads t_tape t_taped w7 w8 w9 w10 w11 w12 w13 v2 v3) fun r16 w17 w18 w19 w20 w21 w22 w23 => some (r16, w17, w18, w19, w20, w21, w22, w23)
noncomputable def fX8_readsNamed_16  (t_tape : Nat → Int32) (t_taped : Int32) (t_faultKind : Int32) (t_faultPlace : Int32) (t_at : Int32) (t_begin : Int32) (t_token : Int32) (t_value : Int32) (t_bad : Int32) (v2 : Int32) (v3 : Int32) : Option (Int32 × Int32 × Int32 × Int32 × Int32 × Int32 × Int32 × Int32) := fX8_readsNamed_21 t_tape t_taped t_faultKind t_faultPlace t_at t_begin t_token t_value t_bad v2 v3 1
noncomputable def fX8_readsNamed  (t_tape : Nat → Int32) (t_taped : Int32) (t_faultKind : Int32) (t_faultPlace : Int32) (t_at : Int32) (t_begin : Int32) (t_token : Int32) (t_value : Int32) (t_bad : Int32) (v1 : Nat) (v2 : Int32) (v3 : Int32) : Option (Int32 × Int32 × Int32 × Int32 × Int32 × Int32 × Int32 × Int32) := (if t_bad = 0 then (fX8_isWord t_tape t_at t_begin t_token v1).bind fun r2 => (if r2 = 0 then fX8_readsNamed_21 t_tape t_taped t_faultKind t_faultPlace t_at t_begin t_token t_value t_bad v2 v3 0 else fX8_readsNamed_16 t_tape t_taped t_faultKind t_faultPlace t_at t_begin t_token t_value t_bad v2 v3) else fX8_readsNamed_16 t_tape t_taped t_faultKind t_faultPlace t_at t_begin t_token t_value t_bad v2 v3)
set_option maxHeartbeats 4000000 in
set_option maxRecDepth 100000 in
theorem ctX8_readsNamed (l : Launch) (g : GT) (sz : Nat) (a_t : Nat → Nat) (t_acted : Int32) (t_taped : Int32) (t_faultKind : Int32) (t_faultPlace : Int32) (t_at : Int32) (t_begin : Int32) (t_token : Int32) (t_value : Int32) (t_bad : Int32) (t_wide : Int32) (t_lost : Int32) (t_det : Int64) (t_mask : Int32) (t_mode : Int32) (t_wanted : Int32) (t_orders : Int32) (t_foundAt : Int32) (t_foundBy : Int64) (t_unlikes : Int32) (t_tape : Nat → Int32) (v1 : Nat) (hs_v1 : v1 < 13) (v2 : Int32) (v3 : Int32) (o : Int32) (o_t_faultKind : Int32) (o_t_faultPlace : Int32) (o_t_at : Int32) (o_t_begin : Int32) (o_t_token : Int32) (o_t_value : Int32) (o_t_bad : Int32) (h : fX8_readsNamed t_tape t_taped t_faultKind t_faultPlace t_at t_begin t_token t_value t_bad v1 v2 v3 = some (o, o_t_faultKind, o_t_faultPlace, o_t_at, o_t_begin, o_t_token, o_t_value, o_t_bad)) : Met l yX8_readsNamed (Cond.code yX8_readsNamed cX8_readsNamed 4 (some .int) :: Tw) ⟨9, 0, 0, 173⟩ (va_Pc [.ref ((a_t 0)), .ref ((g.2.2.2.2.1 v1)), .int v2, .int v3] (rwB g [((a_t 0), .inr (7, [.ref (a_t 1), .ref (a_t 2), .int t_acted, .ref (a_t 4), .ref (a_t 5), .ref (a_t 6), .ref (a_t 7), .ref (a_t 8), .ref (a_t 9), .int t_taped, .int t_faultKind, .int t_faultPlace, .int t_at, .int t_begin, .int t_token, .int t_value, .int t_bad, .ref (a_t 18), .ref (a_t 19), .ref (a_t 20), .int t_wide, .int t_lost, .ref (a_t 23), .long t_det, .ref (a_t 25), .int t_mask, .int t_mode, .int t_wanted, .int t_orders, .int t_foundAt, .long t_foundBy, .ref (a_t 32), .ref (a_t 33), .int t_unlikes, .ref (a_t 35), .ref (a_t 36)])), ((a_t 9), .inl (g.2.2.1 0, 600, .inl t_tape))] sz)) (va_Qi (fun x (_ : Nat → Nat) => x = o) (fun u => rwE g (va_A [((a_t 0), .inr (7, [.ref (a_t 1), .ref (a_t 2), .int t_acted, .ref (a_t 4), .ref (a_t 5), .ref (a_t 6), .ref (a_t 7), .ref (a_t 8), .ref (a_t 9), .int t_taped, .int t_faultKind, .int t_faultPlace, .int t_at, .int t_begin, .int t_token, .int t_value, .int t_bad, .ref (a_t 18), .ref (a_t 19), .ref (a_t 20), .int t_wide, .int t_lost, .ref (a_t 23), .long t_det, .ref (a_t 25), .int t_mask, .int t_mode, .int t_wanted, .int t_orders, .int t_foundAt, .long t_foundBy, .ref (a_t 32), .ref (a_t 33), .int t_unlikes, .ref (a_t 35), .ref (a_t 36)])), ((a_t 9), .inl (g.2.2.1 0, 600, .inl t_tape))] sz) [((a_t 0), .inr (7, [.ref (a_t 1), .ref (a_t 2), .int t_acted, .ref (a_t 4), .ref (a_t 5), .ref (a_t 6), .ref (a_t 7), .ref (a_t 8), .ref (a_t 9), .int t_taped, .int o_t_faultKind, .int o_t_faultPlace, .int o_t_at, .int o_t_begin, .int o_t_token, .int o_t_value, .int o_t_bad, .ref (a_t 18), .ref (a_t 19), .ref (a_t 20), .int t_wide, .int t_lost, .ref (a_t 23), .long t_det, .ref (a_t 25), .int t_mask, .int t_mode, .int t_wanted, .int t_orders, .int t_foundAt, .long t_foundBy, .ref (a_t 32), .ref (a_t 33), .int t_unlikes, .ref (a_t 35), .ref (a_t 36)])), ((a_t 9), .inl (g.2.2.1 0, 600, .inl t_tape))]) (va_A [((a_t 0), .inr (7, [.ref (a_t 1), .ref (a_t 2), .int t_acted, .ref (a_t 4), .ref (a_t 5), .ref (a_t 6), .ref (a_t 7), .ref (a_t 8), .ref (a_t 9), .int t_taped, .int t_faultKind, .int t_faultPlace, .int t_at, .int t_begin, .int t_token, .int t_value, .int t_bad, .ref (a_t 18), .ref (a_t 19), .ref (a_t 20), .int t_wide, .int t_lost, .ref (a_t 23), .long t_det, .ref (a_t 25), .int t_mask, .int t_mode, .int t_wanted, .int t_orders, .int t_foundAt, .long t_foundBy, .ref (a_t 32), .ref (a_t 33), .int t_unlikes, .ref (a_t 35), .ref (a_t 36)])), ((a_t 9), .inl (g.2.2.1 0, 600, .inl t_tape))] sz)) 0 0 (va_A [((a_t 0), .inr (7, [.ref (a_t 1), .ref (a_t 2), .int t_acted, .ref (a_t 4), .ref (a_t 5), .ref (a_t 6), .ref (a_t 7), .ref (a_t 8), .ref (a_t 9), .int t_taped, .int t_faultKind, .int t_faultPlace, .int t_at, .int t_begin, .int t_token, .int t_value, .int t_bad, .ref (a_t 18), .ref (a_t 19), .ref (a_t 20), .int t_wide, .int t_lost, .ref (a_t 23), .long t_det, .ref (a_t 25), .int t_mask, .int t_mode, .int t_wanted, .int t_orders, .int t_foundAt, .long t_foundBy, .ref (a_t 32), .ref (a_t 33), .int t_unlikes, .ref (a_t 35), .ref (a_t 36)])), ((a_t 9), .inl (g.2.2.1 0, 600, .inl t_tape))] sz) := by
  refine rw_meti (by decide) (Nat.le_of_ble_eq_true rfl) (lv0 := [(0, .ref ((a_t 0))), (1, .ref ((g.2.2.2.2.1 v1))), (2, .int v2), (3, .int v3)]) rfl ?_
  intro p e s m args below meth c ls Q A cx hret hG hAb hb0 hA hP hD hl
  have hx := cx.1
  have hb := cx.2.1
  have hG0 := hG
  have hGk : ∀ {H : Heap} {locs : List Loc}, va_S A s.heap H locs → GE g s H := fun hS => hG0.keptS hAb hS
  have hSb : ∀ {H : Heap} {locs : List Loc}, va_S A s.heap H locs → va_S (fun a => g.1 ≤ a) s.heap H locs := fun hS => ⟨hS.1, fun q h1 h2 => hS.2.1 q h1 (fun z => h2 (hAb q z)), fun l hl => hAb _ (hS.2.2 l hl)⟩
  have hS : va_S A s.heap s.heap [] := va_S.rf
  have hrt : ∀ (u : Nat → Nat) (pc : Nat) (ls : Array Slot) (v : Int32) (x_t_faultKind : Int32) (x_t_faultPlace : Int32) (x_t_at : Int32) (x_t_begin : Int32) (x_t_token : Int32) (x_t_value : Int32) (x_t_bad : Int32) (H : Heap) (locs : List Loc), decode cX8_readsNamed pc = .ok (.ireturn, 1) → some (v, x_t_faultKind, x_t_faultPlace, x_t_at, x_t_begin, x_t_token, x_t_value, x_t_bad) = some (o, o_t_faultKind, o_t_faultPlace, o_t_at, o_t_begin, o_t_token, o_t_value, o_t_bad) → va_P g.2.1 vwCl [((a_t 0), .inr (7, [.ref (a_t 1), .ref (a_t 2), .int t_acted, .ref (a_t 4), .ref (a_t 5), .ref (a_t 6), .ref (a_t 7), .ref (a_t 8), .ref (a_t 9), .int t_taped, .int x_t_faultKind, .int x_t_faultPlace, .int x_t_at, .int x_t_begin, .int x_t_token, .int x_t_value, .int x_t_bad, .ref (a_t 18), .ref (a_t 19), .ref (a_t 20), .int t_wide, .int t_lost, .ref (a_t 23), .long t_det, .ref (a_t 25), .int t_mask, .int t_mode, .int t_wanted, .int t_orders, .int t_foundAt, .long t_foundBy, .ref (a_t 32), .ref (a_t 33), .int t_unlikes, .ref (a_t 35), .ref (a_t 36)])), ((a_t 9), .inl (g.2.2.1 0, 600, .inl t_tape))] H → va_D A [((a_t 0), .inr (7, [.ref (a_t 1), .ref (a_t 2), .int t_acted, .ref (a_t 4), .ref (a_t 5), .ref (a_t 6), .ref (a_t 7), .ref (a_t 8), .ref (a_t 9), .int t_taped, .int x_t_faultKind, .int x_t_faultPlace, .int x_t_at, .int x_t_begin, .int x_t_token, .int x_t_value, .int x_t_bad, .ref (a_t 18), .ref (a_t 19), .ref (a_t 20), .int t_wide, .int t_lost, .ref (a_t 23), .long t_det, .ref (a_t 25), .int t_mask, .int t_mode, .int t_wanted, .int t_orders, .int t_foundAt, .long t_foundBy, .ref (a_t 32), .ref (a_t 33), .int t_unlikes, .ref (a_t 35), .ref (a_t 36)])), ((a_t 9), .inl (g.2.2.1 0, 600, .inl t_tape))] → va_S A s.heap H locs → W p l e ⟨9, 0, 0, 173⟩ s m args below meth c H locs 0 0 Q (F0 m pc ls [.int v]) := by
    intro u pc ls v x_t_faultKind x_t_faultPlace x_t_at x_t_begin x_t_token x_t_value x_t_bad H locs hd h hP hD hS
    cases h
    exact hret u _ _ _ _ _ hd rfl hP hD hS
  have w21 : ∀ (t_faultKind : Int32) (t_faultPlace : Int32) (t_at : Int32) (t_begin : Int32) (t_token : Int32) (t_value : Int32) (t_bad : Int32) (v2 : Int32) (v3 : Int32) (z1 : Int32) (H : Heap) (locs : List Loc), va_P g.2.1 vwCl [((a_t 0), .inr (7, [.ref (a_t 1), .ref (a_t 2), .int t_acted, .ref (a_t 4), .ref (a_t 5), .ref (a_t 6), .ref (a_t 7), .ref (a_t 8), .ref (a_t 9), .int t_taped, .int t_faultKind, .int t_faultPlace, .int t_at, .int t_begin, .int t_token, .int t_value, .int t_bad, .ref (a_t 18), .ref (a_t 19), .ref (a_t 20), .int t_wide, .int t_lost, .ref (a_t 23), .long t_det, .ref (a_t 25), .int t_mask, .int t_mode, .int t_wanted, .int t_orders, .int t_foundAt, .long t_foundBy, .ref (a_t 32), .ref (a_t 33), .int t_unlikes, .ref (a_t 35), .ref (a_t 36)])), ((a_t 9), .inl (g.2.2.1 0, 600, .inl t_tape))] H → va_D A [((a_t 0), .inr (7, [.ref (a_t 1), .ref (a_t 2), .int t_acted, .ref (a_t 4), .ref (a_t 5), .ref (a_t 6), .ref (a_t 7), .ref (a_t 8), .ref (a_t 9), .int t_taped, .int t_faultKind, .int t_faultPlace, .int t_at, .int t_begin, .int t_token, .int t_value, .int t_bad, .ref (a_t 18), .ref (a_t 19), .ref (a_t 20), .int t_wide, .int t_lost, .ref (a_t 23), .long t_det, .ref (a_t 25), .int t_mask, .int t_mode, .int t_wanted, .int t_orders, .int t_foundAt, .long t_foundBy, .ref (a_t 32), .ref (a_t 33), .int t_unlikes, .ref (a_t 35), .ref (a_t 36)])), ((a_t 9), .inl (g.2.2.1 0, 600, .inl t_tape))] → va_S A s.heap H locs → ∀ (ls : Array Slot), lv_has ls 4 [(0, .ref ((a_t 0))), (2, .int v2), (3, .int v3)] → fX8_readsNamed_21  t_tape t_taped t_faultKind t_faultPlace t_at t_begin t_token t_value t_bad v2 v3 z1 = some (o, o_t_faultKind, o_t_faultPlace, o_t_at, o_t_begin, o_t_token, o_t_value, o_t_bad) → W p l e ⟨9, 0, 0, 173⟩ s m args below meth c H locs 0 0 Q (F0 m 21 ls [.int z1, .ref ((a_t 0))]) := by
    intro t_faultKind t_faultPlace t_at t_begin t_token t_value t_bad v2 v3 z1 H locs hP hD hS ls hl h
    unfold fX8_readsNamed_21 at h
    have hG := hGk hS
    obtain ⟨w7, w8, w9, w10, w11, w12, w13, hr6, h⟩ := ob7_out h
    refine rw_v (WN := fun u14 => [((a_t 0), .inr (7, [.ref (a_t 1), .ref (a_t 2), .int t_acted, .ref (a_t 4), .ref (a_t 5), .ref (a_t 6), .ref (a_t 7), .ref (a_t 8), .ref (a_t 9), .int t_taped, .int w7, .int w8, .int w9, .int w10, .int w11, .int w12, .int w13, .ref (a_t 18), .ref (a_t 19), .ref (a_t 20), .int t_wide, .int t_lost, .ref (a_t 23), .long t_det, .ref (a_t 25), .int t_mask, .int t_mode, .int t_wanted, .int t_orders, .int t_foundAt, .long t_foundBy, .ref (a_t 32), .ref (a_t 33), .int t_unlikes, .ref (a_t 35), .ref (a_t 36)])), ((a_t 9), .inl (g.2.2.1 0, 600, .inl t_tape))]) (wr := []) (runV (As := [.int z1]) (rest := []) cx hl.1 (ctX8_passes l g H.size a_t t_acted t_taped t_faultKind t_faultPlace t_at t_begin t_token t_value t_bad t_wide t_lost t_det t_mask t_mode t_wanted t_orders t_foundAt t_foundBy t_unlikes t_tape z1 w7 w8 w9 w10 w11 w12 w13 hr6) kmX8_passes kvX8_passes lm_X8_132 ⟨rfl, rfl⟩ ⟨Nat.le_of_ble_eq_true rfl, Nat.le_of_ble_eq_true rfl⟩ (rwV (q0 := 0) (ci := 7) hG (hP.sub [0, 1] rfl) (hD.sub [0, 1] (by decide) rfl) hAb hb0 hS hP rfl rfl) rfl rfl (Nat.le_of_ble_eq_true rfl) dX8_readsNamed_21 ⟨Nat.le_of_ble_eq_true rfl, Nat.le_of_ble_eq_true rfl⟩) hP hD hS hA [0, 1] [] rfl rfl (by decide) (by decide) (fun _ => rfl) (fun u14 H locs hP hD hS => ?_)
    have hG := hGk hS
    refine lv_aload_n hx hb dX8_readsNamed_24 rfl (lv_at hl 0 rfl) ?_
    refine lv_iload_n hx hb dX8_readsNamed_25 rfl (lv_at hl 1 rfl) ?_
    refine lv_iload_n hx hb dX8_readsNamed_26 rfl (lv_at hl 2 rfl) ?_
    obtain ⟨r16, w17, w18, w19, w20, w21, w22, w23, hr15, h⟩ := ob8_out h
    refine rw_i (WN := fun u24 => [((a_t 0), .inr (7, [.ref (a_t 1), .ref (a_t 2), .int t_acted, .ref (a_t 4), .ref (a_t 5), .ref (a_t 6), .ref (a_t 7), .ref (a_t 8), .ref (a_t 9), .int t_taped, .int w17, .int w18, .int w19, .int w20, .int w21, .int w22, .int w23, .ref (a_t 18), .ref (a_t 19), .ref (a_t 20), .int t_wide, .int t_lost, .ref (a_t 23), .long t_det, .ref (a_t 25), .int t_mask, .int t_mode, .int t_wanted, .int t_orders, .int t_foundAt, .long t_foundBy, .ref (a_t 32), .ref (a_t 33), .int t_unlikes, .ref (a_t 35), .ref (a_t 36)])), ((a_t 9), .inl (g.2.2.1 0, 600, .inl t_tape))]) (wr := []) (runV (As := [.int v2, .int v3]) (rest := []) cx hl.1 (ctX8_reads l g H.size a_t t_acted t_taped w7 w8 w9 w10 w11 w12 w13 t_wide t_lost t_det t_mask t_mode t_wanted t_orders t_foundAt t_foundBy t_unlikes t_tape v2 v3 r16 w17 w18 w19 w20 w21 w22 w23 hr15) kmX8_reads kvX8_reads lm_X8_140 ⟨rfl, rfl⟩ ⟨Nat.le_of_ble_eq_true rfl, Nat.le_of_ble_eq_true rfl⟩ (rwV (q0 := 0) (ci := 7) hG (hP.sub [0, 1] rfl) (hD.sub [0, 1] (by decide) rfl) hAb hb0 hS hP rfl rfl) rfl rfl (Nat.le_of_ble_eq_true rfl) dX8_readsNamed_27 ⟨Nat.le_of_ble_eq_true rfl, Nat.le_of_ble_eq_true rfl⟩) hP hD hS hA [0, 1] [] rfl rfl (by decide) (by decide) (fun _ => rfl) (fun u24 H locs hP hD hS => ?_)
    have hG := hGk hS
    exact hrt (fun _ => 0) _ _ r16 w17 w18 w19 w20 w21 w22 w23 _ _ dX8_readsNamed_30 h (hP.sub [0, 1] rfl) (hD.sub [0, 1] (by decide) rfl) hS
  have w16 : ∀ (t_faultKind : Int32) (t_faultPlace : Int32) (t_at : Int32) (t_begin : Int32) (t_token : Int32) (t_value : Int32) (t_bad : Int32) (v2 : Int32) (v3 : Int32) (H : Heap) (locs : List Loc), va_P g.2.1 vwCl [((a_t 0), .inr (7, [.ref (a_t 1), .ref (a_t 2), .int t_acted, .ref (a_t 4), .ref (a_t 5), .ref (a_t 6), .ref (a_t 7), .ref (a_t 8), .ref (a_t 9), .int t_taped, .int t_faultKind, .int t_faultPlace, .int t_at, .int t_begin, .int t_token, .int t_value, .int t_bad, .ref (a_t 18), .ref (a_t 19), .ref (a_t 20), .int t_wide, .int t_lost, .ref (a_t 23), .long t_det, .ref (a_t 25), .int t_mask, .int t_mode, .int t_wanted, .int t_orders, .int t_foundAt, .long t_foundBy, .ref (a_t 32), .ref (a_t 33), .int t_unlikes, .ref (a_t 35), .ref (a_t 36)])), ((a_t 9), .inl (g.2.2.1 0, 600, .inl t_tape))] H → va_D A [((a_t 0), .inr (7, [.ref (a_t 1), .ref (a_t 2), .int t_acted, .ref (a_t 4), .ref (a_t 5), .ref (a_t 6), .ref (a_t 7), .ref (a_t 8), .ref (a_t 9), .int t_taped, .int t_faultKind, .int t_faultPlace, .int t_at, .int t_begin, .int t_token, .int t_value, .int t_bad, .ref (a_t 18), .ref (a_t 19), .ref (a_t 20), .int t_wide, .int t_lost, .ref (a_t 23), .long t_det, .ref (a_t 25), .int t_mask, .int t_mode, .int t_wanted, .int t_orders, .int t_foundAt, .long t_foundBy, .ref (a_t 32), .ref (a_t 33), .int t_unlikes, .ref (a_t 35), .ref (a_t 36)])), ((a_t 9), .inl (g.2.2.1 0, 600, .inl t_tape))] → va_S A s.heap H locs → ∀ (ls : Array Slot), lv_has ls 4 [(0, .ref ((a_t 0))), (2, .int v2), (3, .int v3)] → fX8_readsNamed_16  t_tape t_taped t_faultKind t_faultPlace t_at t_begin t_token t_value t_bad v2 v3 = some (o, o_t_faultKind, o_t_faultPlace, o_t_at, o_t_begin, o_t_token, o_t_value, o_t_bad) → W p l e ⟨9, 0, 0, 173⟩ s m args below meth c H locs 0 0 Q (F0 m 16 ls [.ref ((a_t 0))]) := by
    intro t_faultKind t_faultPlace t_at t_begin t_token t_value t_bad v2 v3 H locs hP hD hS ls hl h
    unfold fX8_readsNamed_16 at h
    have hG := hGk hS
    refine lv_iconst (v := 1) hx hb dX8_readsNamed_16 (by decide) ?_
    refine lv_goto (tgt := 21) hx hb dX8_readsNamed_17 (by decide) ?_
    exact w21 t_faultKind t_faultPlace t_at t_begin t_token t_value t_bad v2 v3 1 _ _ hP hD hS _ (lv_sub hl [0, 1, 2] rfl) h
  unfold fX8_readsNamed at h
  refine lv_aload_n hx hb dX8_readsNamed_0 rfl (lv_at hl 0 rfl) ?_
  refine lv_aload_n hx hb dX8_readsNamed_1 rfl (lv_at hl 0 rfl) ?_
  refine xa_get (C := RX8) (T := TX8) (N := 36) cx hG hP 0 rfl rfl uX8 16 (by decide) lf_X8_108 rfl dX8_readsNamed_2 ?_
  refine lv_if_ne (tgt := 16) hx hb dX8_readsNamed_5 (by decide) (fun c1 => ?_) (fun c1 => ?_)
  · have h := itn c1 h
    exact w16 t_faultKind t_faultPlace t_at t_begin t_token t_value t_bad v2 v3 _ _ hP hD hS _ (lv_sub hl [0, 2, 3] rfl) h
  · have h := itp c1 h
    refine lv_aload_n hx hb dX8_readsNamed_8 rfl (lv_at hl 0 rfl) ?_
    refine lv_aload_n hx hb dX8_readsNamed_9 rfl (lv_at hl 1 rfl) ?_
    obtain ⟨r2, hr3, h⟩ := bnd h
    refine ro_z (runV (As := [.ref ((g.2.2.2.2.1 v1))]) (rest := [.ref ((a_t 0))]) cx hl.1 (ctX8_isWord l g a_t t_acted t_taped t_faultKind t_faultPlace t_at t_begin t_token t_value t_bad t_wide t_lost t_det t_mask t_mode t_wanted t_orders t_foundAt t_foundBy t_unlikes t_tape v1 hs_v1 r2 hr3) kmX8_isWord kvX8_isWord lm_X8_136 ⟨rfl, rfl⟩ ⟨Nat.le_of_ble_eq_true rfl, Nat.le_of_ble_eq_true rfl⟩ (roV (q0 := 0) (ci := 7) hG (hP.sub [0, 1] rfl) hP rfl rfl) rfl rfl (Nat.le_of_ble_eq_true rfl) dX8_readsNamed_10 ⟨Nat.le_of_ble_eq_true rfl, Nat.le_of_ble_eq_true rfl⟩) (fun hz4 => ?_)
    refine lv_if_eq (tgt := 20) hx hb dX8_readsNamed_13 (by decide) (fun c5 => ?_) (fun c5 => ?_)
    · have h := itp c5 h
      refine lv_iconst (v := 0) hx hb dX8_readsNamed_20 (by decide) ?_
      exact w21 t_faultKind t_faultPlace t_at t_begin t_token t_value t_bad v2 v3 0 _ _ hP hD hS _ (lv_sub hl [0, 2, 3] rfl) h
    · have h := itn c5 h
      exact w16 t_faultKind t_faultPlace t_at t_begin t_token t_value t_bad v2 v3 _ _ hP hD hS _ (lv_sub hl [0, 2, 3] rfl) h
-- X8_kindHere
theorem dX8_kindHere_0 : decode cX8_kindHere 0 = .ok (.iconst 0, 1) := by decide +kernel
theorem dX8_kindHere_1 : decode cX8_kindHere 1 = .ok (.istore_n 1, 1) := by decide +kernel
theorem dX8_kindHere_2 : decode cX8_kindHere 2 = .ok (.iload_n 1, 1) := by decide +kernel
theorem dX8_kindHere_3 : decode cX8_kindHere 3 = .ok (.aload_n 0, 1) := by decide +kernel
theorem dX8_kindHere_4 : decode cX8_kindHere 4 = .ok (.getfield 21, 3) := by decide +kernel
theorem dX8_kindHere_7 : decode cX8_kindHere 7 = .ok (.iconst 1, 1) := by decide +kernel
theorem dX8_kindHere_8 : decode cX8_kindHere 8 = .ok (.iaload, 1) := by decide +kernel
theorem dX8_kindHere_9 : decode cX8_kindHere 9 = .ok (.if_icmp .ge 94, 3) := by decide +kernel
theorem dX8_kindHere_12 : decode cX8_kindHere 12 = .ok (.aload_n 0, 1) := by decide +kernel
theorem dX8_kindHere_13 : decode cX8_kindHere 13 = .ok (.getfield 54, 3) := by decide +kernel
theorem dX8_kindHere_16 : decode cX8_kindHere 16 = .ok (.iload_n 1, 1) := by decide +kernel
theorem dX8_kindHere_17 : decode cX8_kindHere 17 = .ok (.iaload, 1) := by decide +kernel
theorem dX8_kindHere_18 : decode cX8_kindHere 18 = .ok (.aload_n 0, 1) := by decide +kernel
theorem dX8_kindHere_19 : decode cX8_kindHere 19 = .ok (.getfield 87, 3) := by decide +kernel
theorem dX8_kindHere_22 : decode cX8_kindHere 22 = .ok (.aload_n 0, 1) := by decide +kernel
theorem dX8_kindHere_23 : decode cX8_kindHere 23 = .ok (.getfield 94, 3) := by decide +kernel
theorem dX8_kindHere_26 : decode cX8_kindHere 26 = .ok (.isub, 1) := by decide +kernel
theorem dX8_kindHere_27 : decode cX8_kindHere 27 = .ok (.if_icmp .ne 7, 3) := by decide +kernel
theorem dX8_kindHere_30 : decode cX8_kindHere 30 = .ok (.iconst 1, 1) := by decide +kernel
theorem dX8_kindHere_31 : decode cX8_kindHere 31 = .ok (.goto 4, 3) := by decide +kernel
theorem dX8_kindHere_34 : decode cX8_kindHere 34 = .ok (.iconst 0, 1) := by decide +kernel
theorem dX8_kindHere_35 : decode cX8_kindHere 35 = .ok (.istore_n 2, 1) := by decide +kernel
theorem dX8_kindHere_36 : decode cX8_kindHere 36 = .ok (.iconst 0, 1) := by decide +kernel
theorem dX8_kindHere_37 : decode cX8_kindHere 37 = .ok (.istore_n 3, 1) := by decide +kernel
theorem dX8_kindHere_38 : decode cX8_kindHere 38 = .ok (.iload_n 3, 1) := by decide +kernel
theorem dX8_kindHere_39 : decode cX8_kindHere 39 = .ok (.aload_n 0, 1) := by decide +kernel
theorem dX8_kindHere_40 : decode cX8_kindHere 40 = .ok (.getfield 54, 3) := by decide +kernel
theorem dX8_kindHere_43 : decode cX8_kindHere 43 = .ok (.iload_n 1, 1) := by decide +kernel
theorem dX8_kindHere_44 : decode cX8_kindHere 44 = .ok (.iaload, 1) := by decide +kernel
theorem dX8_kindHere_45 : decode cX8_kindHere 45 = .ok (.if_icmp .ge 46, 3) := by decide +kernel
theorem dX8_kindHere_48 : decode cX8_kindHere 48 = .ok (.iload_n 2, 1) := by decide +kernel
theorem dX8_kindHere_49 : decode cX8_kindHere 49 = .ok (.ifCond .eq 42, 3) := by decide +kernel
theorem dX8_kindHere_52 : decode cX8_kindHere 52 = .ok (.aload_n 0, 1) := by decide +kernel
theorem dX8_kindHere_53 : decode cX8_kindHere 53 = .ok (.getfield 44, 3) := by decide +kernel
theorem dX8_kindHere_56 : decode cX8_kindHere 56 = .ok (.aload_n 0, 1) := by decide +kernel
theorem dX8_kindHere_57 : decode cX8_kindHere 57 = .ok (.getfield 51, 3) := by decide +kernel
theorem dX8_kindHere_60 : decode cX8_kindHere 60 = .ok (.iload_n 1, 1) := by decide +kernel
theorem dX8_kindHere_61 : decode cX8_kindHere 61 = .ok (.iaload, 1) := by decide +kernel
theorem dX8_kindHere_62 : decode cX8_kindHere 62 = .ok (.iload_n 3, 1) := by decide +kernel
theorem dX8_kindHere_63 : decode cX8_kindHere 63 = .ok (.iadd, 1) := by decide +kernel
theorem dX8_kindHere_64 : decode cX8_kindHere 64 = .ok (.iaload, 1) := by decide +kernel
theorem dX8_kindHere_65 : decode cX8_kindHere 65 = .ok (.aload_n 0, 1) := by decide +kernel
theorem dX8_kindHere_66 : decode cX8_kindHere 66 = .ok (.getfield 44, 3) := by decide +kernel
theorem dX8_kindHere_69 : decode cX8_kindHere 69 = .ok (.aload_n 0, 1) := by decide +kernel
theorem dX8_kindHere_70 : decode cX8_kindHere 70 = .ok (.getfield 94, 3) := by decide +kernel
theorem dX8_kindHere_73 : decode cX8_kindHere 73 = .ok (.iload_n 3, 1) := by decide +kernel
theorem dX8_kindHere_74 : decode cX8_kindHere 74 = .ok (.iadd, 1) := by decide +kernel
theorem dX8_kindHere_75 : decode cX8_kindHere 75 = .ok (.iaload, 1) := by decide +kernel
theorem dX8_kindHere_76 : decode cX8_kindHere 76 = .ok (.if_icmp .ne 7, 3) := by decide +kernel
theorem dX8_kindHere_79 : decode cX8_kindHere 79 = .ok (.iconst 1, 1) := by decide +kernel
theorem dX8_kindHere_80 : decode cX8_kindHere 80 = .ok (.goto 4, 3) := by decide +kernel
theorem dX8_kindHere_83 : decode cX8_kindHere 83 = .ok (.iconst 0, 1) := by decide +kernel
theorem dX8_kindHere_84 : decode cX8_kindHere 84 = .ok (.istore_n 2, 1) := by decide +kernel
theorem dX8_kindHere_85 : decode cX8_kindHere 85 = .ok (.iinc 3 1, 3) := by decide +kernel
theorem dX8_kindHere_88 : decode cX8_kindHere 88 = .ok (.goto (-50), 3) := by decide +kernel
theorem dX8_kindHere_91 : decode cX8_kindHere 91 = .ok (.iload_n 2, 1) := by decide +kernel
theorem dX8_kindHere_92 : decode cX8_kindHere 92 = .ok (.ifCond .eq 5, 3) := by decide +kernel
theorem dX8_kindHere_95 : decode cX8_kindHere 95 = .ok (.iload_n 1, 1) := by decide +kernel
theorem dX8_kindHere_96 : decode cX8_kindHere 96 = .ok (.ireturn, 1) := by decide +kernel
theorem dX8_kindHere_97 : decode cX8_kindHere 97 = .ok (.iinc 1 1, 3) := by decide +kernel
theorem dX8_kindHere_100 : decode cX8_kindHere 100 = .ok (.goto (-98), 3) := by decide +kernel
theorem dX8_kindHere_103 : decode cX8_kindHere 103 = .ok (.iconst (-1), 1) := by decide +kernel
theorem dX8_kindHere_104 : decode cX8_kindHere 104 = .ok (.ireturn, 1) := by decide +kernel
noncomputable def fX8_kindHere_84 (k2 : (Nat → Int32) → (Nat → Int32) → Int32 → Int32 → (Nat → Int32) → (Nat → Int32) → Int32 → Option (Int32)) (k38 : (Nat → Int32) → (Nat → Int32) → Int32 → Int32 → (Nat → Int32) → (Nat → Int32) → Int32 → Int32 → Int32 → Option (Int32)) (t_mem : Nat → Int32) (t_tape : Nat → Int32) (t_at : Int32) (t_begin : Int32) (t_nameAt : Nat → Int32) (t_nameLong : Nat → Int32) (v1 : Int32) (v3 : Int32) (z0 : Int32) : Option (Int32) := k38 t_mem t_tape t_at t_begin t_nameAt t_nameLong v1 z0 (v3 + 1)
noncomputable def fX8_kindHere_91 (k2 : (Nat → Int32) → (Nat → Int32) → Int32 → Int32 → (Nat → Int32) → (Nat → Int32) → Int32 → Option (Int32)) (t_mem : Nat → Int32) (t_tape : Nat → Int32) (t_at : Int32) (t_begin : Int32) (t_nameAt : Nat → Int32) (t_nameLong : Nat → Int32) (v1 : Int32) (v2 : Int32) : Option (Int32) := (if v2 = 0 then k2 t_mem t_tape t_at t_begin t_nameAt t_nameLong (v1 + 1) else some v1)
noncomputable def fX8_kindHere_38 (k2 : (Nat → Int32) → (Nat → Int32) → Int32 → Int32 → (Nat → Int32) → (Nat → Int32) → Int32 → Option (Int32)) : Nat → (Nat → Int32) → (Nat → Int32) → Int32 → Int32 → (Nat → Int32) → (Nat → Int32) → Int32 → Int32 → Int32 → Option (Int32)
  | 0, _, _, _, _, _, _, _, _, _ => none
  | n + 1, t_mem, t_tape, t_at, t_begin, t_nameAt, t_nameLong, v1, v2, v3 => chk 3 v1 ((if (t_nameLong v1.toNatClampNeg) ≤ v3 then fX8_kindHere_91 k2 t_mem t_tape t_at t_begin t_nameAt t_nameLong v1 v2 else (if v2 = 0 then fX8_kindHere_91 k2 t_mem t_tape t_at t_begin t_nameAt t_nameLong v1 v2 else chk 3 v1 (chk 600 ((t_nameAt v1.toNatClampNeg) + v3) (chk 600 (t_begin + v3) ((if (t_tape ((t_nameAt v1.toNatClampNeg) + v3).toNatClampNeg) = (t_tape (t_begin + v3).toNatClampNeg) then fX8_kindHere_84 k2 (fX8_kindHere_38 k2 n) t_mem t_tape t_at t_begin t_nameAt t_nameLong v1 v3 1 else fX8_kindHere_84 k2 (fX8_kindHere_38 k2 n) t_mem t_tape t_at t_begin t_nameAt t_nameLong v1 v3 0)))))))
theorem fX8_kindHere_38_z (k2 : (Nat → Int32) → (Nat → Int32) → Int32 → Int32 → (Nat → Int32) → (Nat → Int32) → Int32 → Option (Int32)) (t_mem : Nat → Int32) (t_tape : Nat → Int32) (t_at : Int32) (t_begin : Int32) (t_nameAt : Nat → Int32) (t_nameLong : Nat → Int32) (v1 : Int32) (v2 : Int32) (v3 : Int32) : fX8_kindHere_38 k2 0 t_mem t_tape t_at t_begin t_nameAt t_nameLong v1 v2 v3 = none := rfl
theorem fX8_kindHere_38_s (k2 : (Nat → Int32) → (Nat → Int32) → Int32 → Int32 → (Nat → Int32) → (Nat → Int32) → Int32 → Option (Int32)) (n : Nat) (t_mem : Nat → Int32) (t_tape : Nat → Int32) (t_at : Int32) (t_begin : Int32) (t_nameAt : Nat → Int32) (t_nameLong : Nat → Int32) (v1 : Int32) (v2 : Int32) (v3 : Int32) : fX8_kindHere_38 k2 (n + 1) t_mem t_tape t_at t_begin t_nameAt t_nameLong v1 v2 v3 = chk 3 v1 ((if (t_nameLong v1.toNatClampNeg) ≤ v3 then fX8_kindHere_91 k2 t_mem t_tape t_at t_begin t_nameAt t_nameLong v1 v2 else (if v2 = 0 then fX8_kindHere_91 k2 t_mem t_tape t_at t_begin t_nameAt t_nameLong v1 v2 else chk 3 v1 (chk 600 ((t_nameAt v1.toNatClampNeg) + v3) (chk 600 (t_begin + v3) ((if (t_tape ((t_nameAt v1.toNatClampNeg) + v3).toNatClampNeg) = (t_tape (t_begin + v3).toNatClampNeg) then fX8_kindHere_84 k2 (fX8_kindHere_38 k2 n) t_mem t_tape t_at t_begin t_nameAt t_nameLong v1 v3 1 else fX8_kindHere_84 k2 (fX8_kindHere_38 k2 n) t_mem t_tape t_at t_begin t_nameAt t_nameLong v1 v3 0))))))) := rfl
noncomputable def fX8_kindHere_35 (k2 : (Nat → Int32) → (Nat → Int32) → Int32 → Int32 → (Nat → Int32) → (Nat → Int32) → Int32 → Option (Int32)) (t_mem : Nat → Int32) (t_tape : Nat → Int32) (t_at : Int32) (t_begin : Int32) (t_nameAt : Nat → Int32) (t_nameLong : Nat → Int32) (v1 : Int32) (z0 : Int32) : Option (Int32) := fX8_kindHere_38 k2 FU t_mem t_tape t_at t_begin t_nameAt t_nameLong v1 z0 0
noncomputable def fX8_kindHere_2  : Nat → (Nat → Int32) → (Nat → Int32) → Int32 → Int32 → (Nat → Int32) → (Nat → Int32) → Int32 → Option (Int32)
  | 0, _, _, _, _, _, _, _ => none
  | n + 1, t_mem, t_tape, t_at, t_begin, t_nameAt, t_nameLong, v1 => (if (t_mem 1) ≤ v1 then some (-1) else chk 3 v1 ((if (t_nameLong v1.toNatClampNeg) = (t_at - t_begin) then fX8_kindHere_35 (fX8_kindHere_2 n) t_mem t_tape t_at t_begin t_nameAt t_nameLong v1 1 else fX8_kindHere_35 (fX8_kindHere_2 n) t_mem t_tape t_at t_begin t_nameAt t_nameLong v1 0)))
theorem fX8_kindHere_2_z  (t_mem : Nat → Int32) (t_tape : Nat → Int32) (t_at : Int32) (t_begin : Int32) (t_nameAt : Nat → Int32) (t_nameLong : Nat → Int32) (v1 : Int32) : fX8_kindHere_2  0 t_mem t_tape t_at t_begin t_nameAt t_nameLong v1 = none := rfl
theorem fX8_kindHere_2_s  (n : Nat) (t_mem : Nat → Int32) (t_tape : Nat → Int32) (t_at : Int32) (t_begin : Int32) (t_nameAt : Nat → Int32) (t_nameLong : Nat → Int32) (v1 : Int32) : fX8_kindHere_2  (n + 1) t_mem t_tape t_at t_begin t_nameAt t_nameLong v1 = (if (t_mem 1) ≤ v1 then some (-1) else chk 3 v1 ((if (t_nameLong v1.toNatClampNeg) = (t_at - t_begin) then fX8_kindHere_35 (fX8_kindHere_2 n) t_mem t_tape t_at t_begin t_nameAt t_nameLong v1 1 else fX8_kindHere_35 (fX8_kindHere_2 n) t_mem t_tape t_at t_begin t_nameAt t_nameLong v1 0))) := rfl
noncomputable def fX8_kindHere  (t_mem : Nat → Int32) (t_tape : Nat → Int32) (t_at : Int32) (t_begin : Int32) (t_nameAt : Nat → Int32) (t_nameLong : Nat → Int32) : Option (Int32) := fX8_kindHere_2 FU t_mem t_tape t_at t_begin t_nameAt t_nameLong 0
set_option maxHeartbeats 4000000 in
set_option maxRecDepth 100000 in
theorem ctX8_kindHere (l : Launch) (g : GT) (a_t : Nat → Nat) (t_acted : Int32) (t_taped : Int32) (t_faultKind : Int32) (t_faultPlace : Int32) (t_at : Int32) (t_begin : Int32) (t_token : Int32) (t_value : Int32) (t_bad : Int32) (t_wide : Int32) (t_lost : Int32) (t_det : Int64) (t_mask : Int32) (t_mode : Int32) (t_wanted : Int32) (t_orders : Int32) (t_foundAt : Int32) (t_foundBy : Int64) (t_unlikes : Int32) (t_mem : Nat → Int32) (t_tape : Nat → Int32) (t_nameAt : Nat → Int32) (t_nameLong : Nat → Int32) (o : Int32) (h : fX8_kindHere t_mem t_tape t_at t_begin t_nameAt t_nameLong = some o) : Met l yX8_kindHere (Cond.code yX8_kindHere cX8_kindHere 4 (some .int) :: Tw) ⟨0, 0, 0, 0⟩ (va_Pc [.ref ((a_t 0))] (roB g [((a_t 0), .inr (7, [.ref (a_t 1), .ref (a_t 2), .int t_acted, .ref (a_t 4), .ref (a_t 5), .ref (a_t 6), .ref (a_t 7), .ref (a_t 8), .ref (a_t 9), .int t_taped, .int t_faultKind, .int t_faultPlace, .int t_at, .int t_begin, .int t_token, .int t_value, .int t_bad, .ref (a_t 18), .ref (a_t 19), .ref (a_t 20), .int t_wide, .int t_lost, .ref (a_t 23), .long t_det, .ref (a_t 25), .int t_mask, .int t_mode, .int t_wanted, .int t_orders, .int t_foundAt, .long t_foundBy, .ref (a_t 32), .ref (a_t 33), .int t_unlikes, .ref (a_t 35), .ref (a_t 36)])), ((a_t 1), .inl (g.2.2.1 0, 27, .inl t_mem)), ((a_t 9), .inl (g.2.2.1 0, 600, .inl t_tape)), ((a_t 18), .inl (g.2.2.1 0, 3, .inl t_nameAt)), ((a_t 19), .inl (g.2.2.1 0, 3, .inl t_nameLong))])) (vp_Si (fun x => x = o)) 0 0 (fun _ => False) := by
  refine ro_meti (by decide) (Nat.le_of_ble_eq_true rfl) (lv0 := [(0, .ref ((a_t 0)))]) rfl ?_
  intro p e s m args below meth c ls Q cx hret hG hP hl
  have hx := cx.1
  have hb := cx.2.1
  have hG0 := hG
  have w84 : ∀ (k2 : (Nat → Int32) → (Nat → Int32) → Int32 → Int32 → (Nat → Int32) → (Nat → Int32) → Int32 → Option (Int32)) (hk2 : ∀ (v1 : Int32) (ls : Array Slot), lv_has ls 4 [(0, .ref ((a_t 0))), (1, .int v1)] → k2 t_mem t_tape t_at t_begin t_nameAt t_nameLong v1 = some o → W p l e ⟨0, 0, 0, 0⟩ s m args below meth c s.heap [] 0 0 Q (F0 m 2 ls [])) (k38 : (Nat → Int32) → (Nat → Int32) → Int32 → Int32 → (Nat → Int32) → (Nat → Int32) → Int32 → Int32 → Int32 → Option (Int32)) (hk38 : ∀ (v1 : Int32) (v2 : Int32) (v3 : Int32) (ls : Array Slot), lv_has ls 4 [(0, .ref ((a_t 0))), (1, .int v1), (2, .int v2), (3, .int v3)] → k38 t_mem t_tape t_at t_begin t_nameAt t_nameLong v1 v2 v3 = some o → W p l e ⟨0, 0, 0, 0⟩ s m args below meth c s.heap [] 0 0 Q (F0 m 38 ls [])) (v1 : Int32) (v3 : Int32) (z0 : Int32) (ls : Array Slot), lv_has ls 4 [(0, .ref ((a_t 0))), (1, .int v1), (3, .int v3)] → fX8_kindHere_84 k2 k38 t_mem t_tape t_at t_begin t_nameAt t_nameLong v1 v3 z0 = some o → W p l e ⟨0, 0, 0, 0⟩ s m args below meth c s.heap [] 0 0 Q (F0 m 84 ls [.int z0]) := by
    intro k2 hk2 k38 hk38 v1 v3 z0 ls hl h
    unfold fX8_kindHere_84 at h
    refine lv_istore_n (lv' := [(2, .int z0), (0, .ref ((a_t 0))), (1, .int v1), (3, .int v3)]) hx hb dX8_kindHere_84 rfl hl (by decide) rfl (fun ls hl => ?_)
    refine lv_iinc (v := v3 + 1) (lv' := [(3, .int (v3 + 1)), (2, .int z0), (0, .ref ((a_t 0))), (1, .int v1)]) hx hb dX8_kindHere_85 hl (k := 3) rfl rfl (by decide) rfl (fun ls hl => ?_)
    refine lv_goto (tgt := 38) hx hb dX8_kindHere_88 (by decide) ?_
    exact hk38 v1 z0 (v3 + 1) _ (lv_sub hl [2, 3, 1, 0] rfl) h
  have w91 : ∀ (k2 : (Nat → Int32) → (Nat → Int32) → Int32 → Int32 → (Nat → Int32) → (Nat → Int32) → Int32 → Option (Int32)) (hk2 : ∀ (v1 : Int32) (ls : Array Slot), lv_has ls 4 [(0, .ref ((a_t 0))), (1, .int v1)] → k2 t_mem t_tape t_at t_begin t_nameAt t_nameLong v1 = some o → W p l e ⟨0, 0, 0, 0⟩ s m args below meth c s.heap [] 0 0 Q (F0 m 2 ls [])) (v1 : Int32) (v2 : Int32) (ls : Array Slot), lv_has ls 4 [(0, .ref ((a_t 0))), (1, .int v1), (2, .int v2)] → fX8_kindHere_91 k2 t_mem t_tape t_at t_begin t_nameAt t_nameLong v1 v2 = some o → W p l e ⟨0, 0, 0, 0⟩ s m args below meth c s.heap [] 0 0 Q (F0 m 91 ls []) := by
    intro k2 hk2 v1 v2 ls hl h
    unfold fX8_kindHere_91 at h
    refine lv_iload_n hx hb dX8_kindHere_91 rfl (lv_at hl 2 rfl) ?_
    refine lv_if_eq (tgt := 97) hx hb dX8_kindHere_92 (by decide) (fun c11 => ?_) (fun c11 => ?_)
    · have h := itp c11 h
      refine lv_iinc (v := v1 + 1) (lv' := [(1, .int (v1 + 1)), (0, .ref ((a_t 0))), (2, .int v2)]) hx hb dX8_kindHere_97 hl (k := 1) rfl rfl (by decide) rfl (fun ls hl => ?_)
      refine lv_goto (tgt := 2) hx hb dX8_kindHere_100 (by decide) ?_
      exact hk2 (v1 + 1) _ (lv_sub hl [1, 0] rfl) h
    · have h := itn c11 h
      refine lv_iload_n hx hb dX8_kindHere_95 rfl (lv_at hl 1 rfl) ?_
      exact hret _ _ _ dX8_kindHere_96 (Option.some.inj h)
  have w38 : ∀ (k2 : (Nat → Int32) → (Nat → Int32) → Int32 → Int32 → (Nat → Int32) → (Nat → Int32) → Int32 → Option (Int32)) (hk2 : ∀ (v1 : Int32) (ls : Array Slot), lv_has ls 4 [(0, .ref ((a_t 0))), (1, .int v1)] → k2 t_mem t_tape t_at t_begin t_nameAt t_nameLong v1 = some o → W p l e ⟨0, 0, 0, 0⟩ s m args below meth c s.heap [] 0 0 Q (F0 m 2 ls [])) (n : Nat) (v1 : Int32) (v2 : Int32) (v3 : Int32) (ls : Array Slot), lv_has ls 4 [(0, .ref ((a_t 0))), (1, .int v1), (2, .int v2), (3, .int v3)] → fX8_kindHere_38 k2 n t_mem t_tape t_at t_begin t_nameAt t_nameLong v1 v2 v3 = some o → W p l e ⟨0, 0, 0, 0⟩ s m args below meth c s.heap [] 0 0 Q (F0 m 38 ls []) := by
    intro k2 hk2 n
    induction n with
    | zero => intro v1 v2 v3 ls hl h; cases (fX8_kindHere_38_z k2 t_mem t_tape t_at t_begin t_nameAt t_nameLong v1 v2 v3).symm.trans h
    | succ n ih =>
    intro v1 v2 v3 ls hl h
    have h := (fX8_kindHere_38_s k2 n t_mem t_tape t_at t_begin t_nameAt t_nameLong v1 v2 v3).symm.trans h
    refine lv_iload_n hx hb dX8_kindHere_38 rfl (lv_at hl 3 rfl) ?_
    refine lv_aload_n hx hb dX8_kindHere_39 rfl (lv_at hl 0 rfl) ?_
    refine xa_get (C := RX8) (T := TX8) (N := 36) cx hG hP 0 rfl rfl uX8 18 (by decide) lf_X8_54 rfl dX8_kindHere_40 ?_
    refine lv_iload_n hx hb dX8_kindHere_43 rfl (lv_at hl 1 rfl) ?_
    obtain ⟨hi4, h⟩ := chk_out h
    refine xa_iald cx hG hP 4 rfl hi4 rfl dX8_kindHere_44 ?_
    refine lv_icmp_ge (tgt := 91) hx hb dX8_kindHere_45 (by decide) (fun c5 => ?_) (fun c5 => ?_)
    · have h := itp c5 h
      exact w91 _ hk2 v1 v2 _ (lv_sub hl [0, 1, 2] rfl) h
    · have h := itn c5 h
      refine lv_iload_n hx hb dX8_kindHere_48 rfl (lv_at hl 2 rfl) ?_
      refine lv_if_eq (tgt := 91) hx hb dX8_kindHere_49 (by decide) (fun c6 => ?_) (fun c6 => ?_)
      · have h := itp c6 h
        exact w91 _ hk2 v1 v2 _ (lv_sub hl [0, 1, 2] rfl) h
      · have h := itn c6 h
        refine lv_aload_n hx hb dX8_kindHere_52 rfl (lv_at hl 0 rfl) ?_
        refine xa_get (C := RX8) (T := TX8) (N := 36) cx hG hP 0 rfl rfl uX8 8 (by decide) lf_X8_44 rfl dX8_kindHere_53 ?_
        refine lv_aload_n hx hb dX8_kindHere_56 rfl (lv_at hl 0 rfl) ?_
        refine xa_get (C := RX8) (T := TX8) (N := 36) cx hG hP 0 rfl rfl uX8 17 (by decide) lf_X8_51 rfl dX8_kindHere_57 ?_
        refine lv_iload_n hx hb dX8_kindHere_60 rfl (lv_at hl 1 rfl) ?_
        obtain ⟨hi7, h⟩ := chk_out h
        refine xa_iald cx hG hP 3 rfl hi7 rfl dX8_kindHere_61 ?_
        refine lv_iload_n hx hb dX8_kindHere_62 rfl (lv_at hl 3 rfl) ?_
        refine lv_iadd hx hb dX8_kindHere_63 ?_
        obtain ⟨hi8, h⟩ := chk_out h
        refine xa_iald cx hG hP 2 rfl hi8 rfl dX8_kindHere_64 ?_
        refine lv_aload_n hx hb dX8_kindHere_65 rfl (lv_at hl 0 rfl) ?_
        refine xa_get (C := RX8) (T := TX8) (N := 36) cx hG hP 0 rfl rfl uX8 8 (by decide) lf_X8_44 rfl dX8_kindHere_66 ?_
        refine lv_aload_n hx hb dX8_kindHere_69 rfl (lv_at hl 0 rfl) ?_
        refine xa_get (C := RX8) (T := TX8) (N := 36) cx hG hP 0 rfl rfl uX8 13 (by decide) lf_X8_94 rfl dX8_kindHere_70 ?_
        refine lv_iload_n hx hb dX8_kindHere_73 rfl (lv_at hl 3 rfl) ?_
        refine lv_iadd hx hb dX8_kindHere_74 ?_
        obtain ⟨hi9, h⟩ := chk_out h
        refine xa_iald cx hG hP 2 rfl hi9 rfl dX8_kindHere_75 ?_
        refine lv_icmp_ne (tgt := 83) hx hb dX8_kindHere_76 (by decide) (fun c10 => ?_) (fun c10 => ?_)
        · have h := itn c10 h
          refine lv_iconst (v := 0) hx hb dX8_kindHere_83 (by decide) ?_
          exact w84 _ hk2 _ ih v1 v3 0 _ (lv_sub hl [0, 1, 3] rfl) h
        · have h := itp c10 h
          refine lv_iconst (v := 1) hx hb dX8_kindHere_79 (by decide) ?_
          refine lv_goto (tgt := 84) hx hb dX8_kindHere_80 (by decide) ?_
          exact w84 _ hk2 _ ih v1 v3 1 _ (lv_sub hl [0, 1, 3] rfl) h
  have w35 : ∀ (k2 : (Nat → Int32) → (Nat → Int32) → Int32 → Int32 → (Nat → Int32) → (Nat → Int32) → Int32 → Option (Int32)) (hk2 : ∀ (v1 : Int32) (ls : Array Slot), lv_has ls 4 [(0, .ref ((a_t 0))), (1, .int v1)] → k2 t_mem t_tape t_at t_begin t_nameAt t_nameLong v1 = some o → W p l e ⟨0, 0, 0, 0⟩ s m args below meth c s.heap [] 0 0 Q (F0 m 2 ls [])) (v1 : Int32) (z0 : Int32) (ls : Array Slot), lv_has ls 4 [(0, .ref ((a_t 0))), (1, .int v1)] → fX8_kindHere_35 k2 t_mem t_tape t_at t_begin t_nameAt t_nameLong v1 z0 = some o → W p l e ⟨0, 0, 0, 0⟩ s m args below meth c s.heap [] 0 0 Q (F0 m 35 ls [.int z0]) := by
    intro k2 hk2 v1 z0 ls hl h
    unfold fX8_kindHere_35 at h
    refine lv_istore_n (lv' := [(2, .int z0), (0, .ref ((a_t 0))), (1, .int v1)]) hx hb dX8_kindHere_35 rfl hl (by decide) rfl (fun ls hl => ?_)
    refine lv_iconst (v := 0) hx hb dX8_kindHere_36 (by decide) ?_
    refine lv_istore_n (lv' := [(3, .int (0)), (2, .int z0), (0, .ref ((a_t 0))), (1, .int v1)]) hx hb dX8_kindHere_37 rfl hl (by decide) rfl (fun ls hl => ?_)
    exact w38 _ hk2 FU v1 z0 0 _ (lv_sub hl [2, 3, 1, 0] rfl) h
  have w2 : ∀ (n : Nat) (v1 : Int32) (ls : Array Slot), lv_has ls 4 [(0, .ref ((a_t 0))), (1, .int v1)] → fX8_kindHere_2  n t_mem t_tape t_at t_begin t_nameAt t_nameLong v1 = some o → W p l e ⟨0, 0, 0, 0⟩ s m args below meth c s.heap [] 0 0 Q (F0 m 2 ls []) := by
    intro n
    induction n with
    | zero => intro v1 ls hl h; cases (fX8_kindHere_2_z  t_mem t_tape t_at t_begin t_nameAt t_nameLong v1).symm.trans h
    | succ n ih =>
    intro v1 ls hl h
    have h := (fX8_kindHere_2_s  n t_mem t_tape t_at t_begin t_nameAt t_nameLong v1).symm.trans h
    refine lv_iload_n hx hb dX8_kindHere_2 rfl (lv_at hl 1 rfl) ?_
    refine lv_aload_n hx hb dX8_kindHere_3 rfl (lv_at hl 0 rfl) ?_
    refine xa_get (C := RX8) (T := TX8) (N := 36) cx hG hP 0 rfl rfl uX8 0 (by decide) lf_X8_21 rfl dX8_kindHere_4 ?_
    refine lv_iconst (v := 1) hx hb dX8_kindHere_7 (by decide) ?_
    refine xa_iald (k := 1) cx hG hP 1 rfl (show ¬ ((1 : Int32) < 0 ∨ 27 ≤ (1 : Int32).toNatClampNeg) by decide) (by decide) dX8_kindHere_8 ?_
    refine lv_icmp_ge (tgt := 103) hx hb dX8_kindHere_9 (by decide) (fun c1 => ?_) (fun c1 => ?_)
    · have h := itp c1 h
      refine lv_iconst (v := -1) hx hb dX8_kindHere_103 (by decide) ?_
      exact hret _ _ _ dX8_kindHere_104 (Option.some.inj h)
    · have h := itn c1 h
      refine lv_aload_n hx hb dX8_kindHere_12 rfl (lv_at hl 0 rfl) ?_
      refine xa_get (C := RX8) (T := TX8) (N := 36) cx hG hP 0 rfl rfl uX8 18 (by decide) lf_X8_54 rfl dX8_kindHere_13 ?_
      refine lv_iload_n hx hb dX8_kindHere_16 rfl (lv_at hl 1 rfl) ?_
      obtain ⟨hi2, h⟩ := chk_out h
      refine xa_iald cx hG hP 4 rfl hi2 rfl dX8_kindHere_17 ?_
      refine lv_aload_n hx hb dX8_kindHere_18 rfl (lv_at hl 0 rfl) ?_
      refine xa_get (C := RX8) (T := TX8) (N := 36) cx hG hP 0 rfl rfl uX8 12 (by decide) lf_X8_87 rfl dX8_kindHere_19 ?_
      refine lv_aload_n hx hb dX8_kindHere_22 rfl (lv_at hl 0 rfl) ?_
      refine xa_get (C := RX8) (T := TX8) (N := 36) cx hG hP 0 rfl rfl uX8 13 (by decide) lf_X8_94 rfl dX8_kindHere_23 ?_
      refine lv_isub hx hb dX8_kindHere_26 ?_
      refine lv_icmp_ne (tgt := 34) hx hb dX8_kindHere_27 (by decide) (fun c3 => ?_) (fun c3 => ?_)
      · have h := itn c3 h
        refine lv_iconst (v := 0) hx hb dX8_kindHere_34 (by decide) ?_
        exact w35 _ ih v1 0 _ (lv_sub hl [0, 1] rfl) h
      · have h := itp c3 h
        refine lv_iconst (v := 1) hx hb dX8_kindHere_30 (by decide) ?_
        refine lv_goto (tgt := 35) hx hb dX8_kindHere_31 (by decide) ?_
        exact w35 _ ih v1 1 _ (lv_sub hl [0, 1] rfl) h
  unfold fX8_kindHere at h
  refine lv_iconst (v := 0) hx hb dX8_kindHere_0 (by decide) ?_
  refine lv_istore_n (lv' := [(1, .int (0)), (0, .ref ((a_t 0)))]) hx hb dX8_kindHere_1 rfl hl (by decide) rfl (fun ls hl => ?_)
  exact w2 FU 0 _ (lv_sub hl [1, 0] rfl) h
-- X8_readsPlate
theorem dX8_readsPlate_0 : decode cX8_readsPlate 0 = .ok (.aload_n 0, 1) := by decide +kernel
theorem dX8_readsPlate_1 : decode cX8_readsPlate 1 = .ok (.aload_n 0, 1) := by decide +kernel
theorem dX8_readsPlate_2 : decode cX8_readsPlate 2 = .ok (.ldc 143, 2) := by decide +kernel
theorem dX8_readsPlate_4 : decode cX8_readsPlate 4 = .ok (.invokevirtual 136, 3) := by decide +kernel
theorem dX8_readsPlate_7 : decode cX8_readsPlate 7 = .ok (.invokevirtual 132, 3) := by decide +kernel
theorem dX8_readsPlate_10 : decode cX8_readsPlate 10 = .ok (.aload_n 0, 1) := by decide +kernel
theorem dX8_readsPlate_11 : decode cX8_readsPlate 11 = .ok (.getfield 21, 3) := by decide +kernel
theorem dX8_readsPlate_14 : decode cX8_readsPlate 14 = .ok (.iconst 0, 1) := by decide +kernel
theorem dX8_readsPlate_15 : decode cX8_readsPlate 15 = .ok (.aload_n 0, 1) := by decide +kernel
theorem dX8_readsPlate_16 : decode cX8_readsPlate 16 = .ok (.ldc 145, 2) := by decide +kernel
theorem dX8_readsPlate_18 : decode cX8_readsPlate 18 = .ok (.iconst 1, 1) := by decide +kernel
theorem dX8_readsPlate_19 : decode cX8_readsPlate 19 = .ok (.bipush 8, 2) := by decide +kernel
theorem dX8_readsPlate_21 : decode cX8_readsPlate 21 = .ok (.invokevirtual 147, 3) := by decide +kernel
theorem dX8_readsPlate_24 : decode cX8_readsPlate 24 = .ok (.iastore, 1) := by decide +kernel
theorem dX8_readsPlate_25 : decode cX8_readsPlate 25 = .ok (.return_, 1) := by decide +kernel
noncomputable def fX8_readsPlate  (t_mem : Nat → Int32) (t_tape : Nat → Int32) (t_taped : Int32) (t_faultKind : Int32) (t_faultPlace : Int32) (t_at : Int32) (t_begin : Int32) (t_token : Int32) (t_value : Int32) (t_bad : Int32) : Option ((Nat → Int32) × Int32 × Int32 × Int32 × Int32 × Int32 × Int32 × Int32) := (fX8_isWord t_tape t_at t_begin t_token 0).bind fun r1 => ob7 (fX8_passes t_tape t_taped t_faultKind t_faultPlace t_at t_begin t_token t_value t_bad r1) fun w5 w6 w7 w8 w9 w10 w11 => ob8 (fX8_readsNamed t_tape t_taped w5 w6 w7 w8 w9 w10 w11 1 1 8) fun r14 w15 w16 w17 w18 w19 w20 w21 => some (upd t_mem 0 r14, w15, w16, w17, w18, w19, w20, w21)
set_option maxHeartbeats 4000000 in
set_option maxRecDepth 100000 in
theorem ctX8_readsPlate (l : Launch) (g : GT) (sz : Nat) (a_t : Nat → Nat) (t_acted : Int32) (t_taped : Int32) (t_faultKind : Int32) (t_faultPlace : Int32) (t_at : Int32) (t_begin : Int32) (t_token : Int32) (t_value : Int32) (t_bad : Int32) (t_wide : Int32) (t_lost : Int32) (t_det : Int64) (t_mask : Int32) (t_mode : Int32) (t_wanted : Int32) (t_orders : Int32) (t_foundAt : Int32) (t_foundBy : Int64) (t_unlikes : Int32) (t_mem : Nat → Int32) (t_tape : Nat → Int32) (o_t_mem : Nat → Int32) (o_t_faultKind : Int32) (o_t_faultPlace : Int32) (o_t_at : Int32) (o_t_begin : Int32) (o_t_token : Int32) (o_t_value : Int32) (o_t_bad : Int32) (h : fX8_readsPlate t_mem t_tape t_taped t_faultKind t_faultPlace t_at t_begin t_token t_value t_bad = some (o_t_mem, o_t_faultKind, o_t_faultPlace, o_t_at, o_t_begin, o_t_token, o_t_value, o_t_bad)) : Met l yX8_readsPlate (Cond.code yX8_readsPlate cX8_readsPlate 1 none :: Tw) ⟨10, 0, 0, 196⟩ (va_Pc [.ref ((a_t 0))] (rwB g [((a_t 0), .inr (7, [.ref (a_t 1), .ref (a_t 2), .int t_acted, .ref (a_t 4), .ref (a_t 5), .ref (a_t 6), .ref (a_t 7), .ref (a_t 8), .ref (a_t 9), .int t_taped, .int t_faultKind, .int t_faultPlace, .int t_at, .int t_begin, .int t_token, .int t_value, .int t_bad, .ref (a_t 18), .ref (a_t 19), .ref (a_t 20), .int t_wide, .int t_lost, .ref (a_t 23), .long t_det, .ref (a_t 25), .int t_mask, .int t_mode, .int t_wanted, .int t_orders, .int t_foundAt, .long t_foundBy, .ref (a_t 32), .ref (a_t 33), .int t_unlikes, .ref (a_t 35), .ref (a_t 36)])), ((a_t 1), .inl (g.2.2.1 0, 27, .inl t_mem)), ((a_t 9), .inl (g.2.2.1 0, 600, .inl t_tape))] sz)) (va_Qv (fun (_ : Nat → Nat) => True) (fun u => rwE g (va_A [((a_t 0), .inr (7, [.ref (a_t 1), .ref (a_t 2), .int t_acted, .ref (a_t 4), .ref (a_t 5), .ref (a_t 6), .ref (a_t 7), .ref (a_t 8), .ref (a_t 9), .int t_taped, .int t_faultKind, .int t_faultPlace, .int t_at, .int t_begin, .int t_token, .int t_value, .int t_bad, .ref (a_t 18), .ref (a_t 19), .ref (a_t 20), .int t_wide, .int t_lost, .ref (a_t 23), .long t_det, .ref (a_t 25), .int t_mask, .int t_mode, .int t_wanted, .int t_orders, .int t_foundAt, .long t_foundBy, .ref (a_t 32), .ref (a_t 33), .int t_unlikes, .ref (a_t 35), .ref (a_t 36)])), ((a_t 1), .inl (g.2.2.1 0, 27, .inl t_mem)), ((a_t 9), .inl (g.2.2.1 0, 600, .inl t_tape))] sz) [((a_t 0), .inr (7, [.ref (a_t 1), .ref (a_t 2), .int t_acted, .ref (a_t 4), .ref (a_t 5), .ref (a_t 6), .ref (a_t 7), .ref (a_t 8), .ref (a_t 9), .int t_taped, .int o_t_faultKind, .int o_t_faultPlace, .int o_t_at, .int o_t_begin, .int o_t_token, .int o_t_value, .int o_t_bad, .ref (a_t 18), .ref (a_t 19), .ref (a_t 20), .int t_wide, .int t_lost, .ref (a_t 23), .long t_det, .ref (a_t 25), .int t_mask, .int t_mode, .int t_wanted, .int t_orders, .int t_foundAt, .long t_foundBy, .ref (a_t 32), .ref (a_t 33), .int t_unlikes, .ref (a_t 35), .ref (a_t 36)])), ((a_t 1), .inl (g.2.2.1 0, 27, .inl o_t_mem)), ((a_t 9), .inl (g.2.2.1 0, 600, .inl t_tape))]) (va_A [((a_t 0), .inr (7, [.ref (a_t 1), .ref (a_t 2), .int t_acted, .ref (a_t 4), .ref (a_t 5), .ref (a_t 6), .ref (a_t 7), .ref (a_t 8), .ref (a_t 9), .int t_taped, .int t_faultKind, .int t_faultPlace, .int t_at, .int t_begin, .int t_token, .int t_value, .int t_bad, .ref (a_t 18), .ref (a_t 19), .ref (a_t 20), .int t_wide, .int t_lost, .ref (a_t 23), .long t_det, .ref (a_t 25), .int t_mask, .int t_mode, .int t_wanted, .int t_orders, .int t_foundAt, .long t_foundBy, .ref (a_t 32), .ref (a_t 33), .int t_unlikes, .ref (a_t 35), .ref (a_t 36)])), ((a_t 1), .inl (g.2.2.1 0, 27, .inl t_mem)), ((a_t 9), .inl (g.2.2.1 0, 600, .inl t_tape))] sz)) 0 0 (va_A [((a_t 0), .inr (7, [.ref (a_t 1), .ref (a_t 2), .int t_acted, .ref (a_t 4), .ref (a_t 5), .ref (a_t 6), .ref (a_t 7), .ref (a_t 8), .ref (a_t 9), .int t_taped, .int t_faultKind, .int t_faultPlace, .int t_at, .int t_begin, .int t_token, .int t_value, .int t_bad, .ref (a_t 18), .ref (a_t 19), .ref (a_t 20), .int t_wide, .int t_lost, .ref (a_t 23), .long t_det, .ref (a_t 25), .int t_mask, .int t_mode, .int t_wanted, .int t_orders, .int t_foundAt, .long t_foundBy, .ref (a_t 32), .ref (a_t 33), .int t_unlikes, .ref (a_t 35), .ref (a_t 36)])), ((a_t 1), .inl (g.2.2.1 0, 27, .inl t_mem)), ((a_t 9), .inl (g.2.2.1 0, 600, .inl t_tape))] sz) := by
  refine rw_metv (by decide) (Nat.le_of_ble_eq_true rfl) (lv0 := [(0, .ref ((a_t 0)))]) rfl ?_
  intro p e s m args below meth c ls Q A cx hret hG hAb hb0 hA hP hD hl
  have hx := cx.1
  have hb := cx.2.1
  have hG0 := hG
  have hGk : ∀ {H : Heap} {locs : List Loc}, va_S A s.heap H locs → GE g s H := fun hS => hG0.keptS hAb hS
  have hSb : ∀ {H : Heap} {locs : List Loc}, va_S A s.heap H locs → va_S (fun a => g.1 ≤ a) s.heap H locs := fun hS => ⟨hS.1, fun q h1 h2 => hS.2.1 q h1 (fun z => h2 (hAb q z)), fun l hl => hAb _ (hS.2.2 l hl)⟩
  have hS : va_S A s.heap s.heap [] := va_S.rf
  have hrt : ∀ (u : Nat → Nat) (pc : Nat) (ls : Array Slot) (x_t_mem : Nat → Int32) (x_t_faultKind : Int32) (x_t_faultPlace : Int32) (x_t_at : Int32) (x_t_begin : Int32) (x_t_token : Int32) (x_t_value : Int32) (x_t_bad : Int32) (H : Heap) (locs : List Loc), decode cX8_readsPlate pc = .ok (.return_, 1) → some (x_t_mem, x_t_faultKind, x_t_faultPlace, x_t_at, x_t_begin, x_t_token, x_t_value, x_t_bad) = some (o_t_mem, o_t_faultKind, o_t_faultPlace, o_t_at, o_t_begin, o_t_token, o_t_value, o_t_bad) → va_P g.2.1 vwCl [((a_t 0), .inr (7, [.ref (a_t 1), .ref (a_t 2), .int t_acted, .ref (a_t 4), .ref (a_t 5), .ref (a_t 6), .ref (a_t 7), .ref (a_t 8), .ref (a_t 9), .int t_taped, .int x_t_faultKind, .int x_t_faultPlace, .int x_t_at, .int x_t_begin, .int x_t_token, .int x_t_value, .int x_t_bad, .ref (a_t 18), .ref (a_t 19), .ref (a_t 20), .int t_wide, .int t_lost, .ref (a_t 23), .long t_det, .ref (a_t 25), .int t_mask, .int t_mode, .int t_wanted, .int t_orders, .int t_foundAt, .long t_foundBy, .ref (a_t 32), .ref (a_t 33), .int t_unlikes, .ref (a_t 35), .ref (a_t 36)])), ((a_t 1), .inl (g.2.2.1 0, 27, .inl x_t_mem)), ((a_t 9), .inl (g.2.2.1 0, 600, .inl t_tape))] H → va_D A [((a_t 0), .inr (7, [.ref (a_t 1), .ref (a_t 2), .int t_acted, .ref (a_t 4), .ref (a_t 5), .ref (a_t 6), .ref (a_t 7), .ref (a_t 8), .ref (a_t 9), .int t_taped, .int x_t_faultKind, .int x_t_faultPlace, .int x_t_at, .int x_t_begin, .int x_t_token, .int x_t_value, .int x_t_bad, .ref (a_t 18), .ref (a_t 19), .ref (a_t 20), .int t_wide, .int t_lost, .ref (a_t 23), .long t_det, .ref (a_t 25), .int t_mask, .int t_mode, .int t_wanted, .int t_orders, .int t_foundAt, .long t_foundBy, .ref (a_t 32), .ref (a_t 33), .int t_unlikes, .ref (a_t 35), .ref (a_t 36)])), ((a_t 1), .inl (g.2.2.1 0, 27, .inl x_t_mem)), ((a_t 9), .inl (g.2.2.1 0, 600, .inl t_tape))] → va_S A s.heap H locs → W p l e ⟨10, 0, 0, 196⟩ s m args below meth c H locs 0 0 Q (F0 m pc ls []) := by
    intro u pc ls x_t_mem x_t_faultKind x_t_faultPlace x_t_at x_t_begin x_t_token x_t_value x_t_bad H locs hd h hP hD hS
    cases h
    exact hret u _ _ _ _ hd hP hD hS
  unfold fX8_readsPlate at h
  refine lv_aload_n hx hb dX8_readsPlate_0 rfl (lv_at hl 0 rfl) ?_
  refine lv_aload_n hx hb dX8_readsPlate_1 rfl (lv_at hl 0 rfl) ?_
  refine va_ldcS (own := RX8) (tx := "plate") (q := g.2.2.2.2.1 0) hx hb cx.2.2.2.1 (GE_st hG sr_13) dX8_readsPlate_2 ?_
  obtain ⟨r1, hr2, h⟩ := bnd h
  refine ro_z (runV (As := [.ref ((g.2.2.2.2.1 0))]) (rest := [.ref ((a_t 0))]) cx hl.1 (ctX8_isWord l g a_t t_acted t_taped t_faultKind t_faultPlace t_at t_begin t_token t_value t_bad t_wide t_lost t_det t_mask t_mode t_wanted t_orders t_foundAt t_foundBy t_unlikes t_tape 0 (by decide) r1 hr2) kmX8_isWord kvX8_isWord lm_X8_136 ⟨rfl, rfl⟩ ⟨Nat.le_of_ble_eq_true rfl, Nat.le_of_ble_eq_true rfl⟩ (roV (q0 := 0) (ci := 7) hG (hP.sub [0, 2] rfl) hP rfl rfl) rfl rfl (Nat.le_of_ble_eq_true rfl) dX8_readsPlate_4 ⟨Nat.le_of_ble_eq_true rfl, Nat.le_of_ble_eq_true rfl⟩) (fun hz3 => ?_)
  obtain ⟨w5, w6, w7, w8, w9, w10, w11, hr4, h⟩ := ob7_out h
  refine rw_v (WN := fun u12 => [((a_t 1), .inl (g.2.2.1 0, 27, .inl t_mem)), ((a_t 0), .inr (7, [.ref (a_t 1), .ref (a_t 2), .int t_acted, .ref (a_t 4), .ref (a_t 5), .ref (a_t 6), .ref (a_t 7), .ref (a_t 8), .ref (a_t 9), .int t_taped, .int w5, .int w6, .int w7, .int w8, .int w9, .int w10, .int w11, .ref (a_t 18), .ref (a_t 19), .ref (a_t 20), .int t_wide, .int t_lost, .ref (a_t 23), .long t_det, .ref (a_t 25), .int t_mask, .int t_mode, .int t_wanted, .int t_orders, .int t_foundAt, .long t_foundBy, .ref (a_t 32), .ref (a_t 33), .int t_unlikes, .ref (a_t 35), .ref (a_t 36)])), ((a_t 9), .inl (g.2.2.1 0, 600, .inl t_tape))]) (wr := [((a_t 1), .inl (g.2.2.1 0, 27, .inl t_mem))]) (runV (As := [.int r1]) (rest := []) cx hl.1 (ctX8_passes l g s.heap.size a_t t_acted t_taped t_faultKind t_faultPlace t_at t_begin t_token t_value t_bad t_wide t_lost t_det t_mask t_mode t_wanted t_orders t_foundAt t_foundBy t_unlikes t_tape r1 w5 w6 w7 w8 w9 w10 w11 hr4) kmX8_passes kvX8_passes lm_X8_132 ⟨rfl, rfl⟩ ⟨Nat.le_of_ble_eq_true rfl, Nat.le_of_ble_eq_true rfl⟩ (rwV (q0 := 0) (ci := 7) hG (hP.sub [0, 2] rfl) (hD.sub [0, 2] (by decide) rfl) hAb hb0 hS hP rfl rfl) rfl rfl (Nat.le_of_ble_eq_true rfl) dX8_readsPlate_7 ⟨Nat.le_of_ble_eq_true rfl, Nat.le_of_ble_eq_true rfl⟩) hP hD hS hA [0, 2] [1] rfl rfl (by decide) (by decide) (fun _ => rfl) (fun u12 H locs hP hD hS => ?_)
  have hG := hGk hS
  refine lv_aload_n hx hb dX8_readsPlate_10 rfl (lv_at hl 0 rfl) ?_
  refine xa_get (C := RX8) (T := TX8) (N := 36) cx hG hP 1 rfl rfl uX8 0 (by decide) lf_X8_21 rfl dX8_readsPlate_11 ?_
  refine lv_iconst (v := 0) hx hb dX8_readsPlate_14 (by decide) ?_
  refine lv_aload_n hx hb dX8_readsPlate_15 rfl (lv_at hl 0 rfl) ?_
  refine va_ldcS (own := RX8) (tx := "room") (q := g.2.2.2.2.1 1) hx hb cx.2.2.2.1 (GE_st hG sr_14) dX8_readsPlate_16 ?_
  refine lv_iconst (v := 1) hx hb dX8_readsPlate_18 (by decide) ?_
  refine lv_bipush (v := 8) hx hb dX8_readsPlate_19 (by decide) ?_
  obtain ⟨r14, w15, w16, w17, w18, w19, w20, w21, hr13, h⟩ := ob8_out h
  refine rw_i (WN := fun u22 => [((a_t 1), .inl (g.2.2.1 0, 27, .inl t_mem)), ((a_t 0), .inr (7, [.ref (a_t 1), .ref (a_t 2), .int t_acted, .ref (a_t 4), .ref (a_t 5), .ref (a_t 6), .ref (a_t 7), .ref (a_t 8), .ref (a_t 9), .int t_taped, .int w15, .int w16, .int w17, .int w18, .int w19, .int w20, .int w21, .ref (a_t 18), .ref (a_t 19), .ref (a_t 20), .int t_wide, .int t_lost, .ref (a_t 23), .long t_det, .ref (a_t 25), .int t_mask, .int t_mode, .int t_wanted, .int t_orders, .int t_foundAt, .long t_foundBy, .ref (a_t 32), .ref (a_t 33), .int t_unlikes, .ref (a_t 35), .ref (a_t 36)])), ((a_t 9), .inl (g.2.2.1 0, 600, .inl t_tape))]) (wr := [((a_t 1), .inl (g.2.2.1 0, 27, .inl t_mem))]) (runV (As := [.ref ((g.2.2.2.2.1 1)), .int (1), .int (8)]) (rest := [.int (0), .ref ((a_t 1))]) cx hl.1 (ctX8_readsNamed l g H.size a_t t_acted t_taped w5 w6 w7 w8 w9 w10 w11 t_wide t_lost t_det t_mask t_mode t_wanted t_orders t_foundAt t_foundBy t_unlikes t_tape 1 (by decide) (1) (8) r14 w15 w16 w17 w18 w19 w20 w21 hr13) kmX8_readsNamed kvX8_readsNamed lm_X8_147 ⟨rfl, rfl⟩ ⟨Nat.le_of_ble_eq_true rfl, Nat.le_of_ble_eq_true rfl⟩ (rwV (q0 := 1) (ci := 7) hG (hP.sub [1, 2] rfl) (hD.sub [1, 2] (by decide) rfl) hAb hb0 hS hP rfl rfl) rfl rfl (Nat.le_of_ble_eq_true rfl) dX8_readsPlate_21 ⟨Nat.le_of_ble_eq_true rfl, Nat.le_of_ble_eq_true rfl⟩) hP hD hS hA [1, 2] [0] rfl rfl (by decide) (by decide) (fun _ => rfl) (fun u22 H locs hP hD hS => ?_)
  have hG := hGk hS
  refine xw_iast (ws' := [((a_t 1), .inl (g.2.2.1 0, 27, .inl (upd t_mem 0 r14))), ((a_t 0), .inr (7, [.ref (a_t 1), .ref (a_t 2), .int t_acted, .ref (a_t 4), .ref (a_t 5), .ref (a_t 6), .ref (a_t 7), .ref (a_t 8), .ref (a_t 9), .int t_taped, .int w15, .int w16, .int w17, .int w18, .int w19, .int w20, .int w21, .ref (a_t 18), .ref (a_t 19), .ref (a_t 20), .int t_wide, .int t_lost, .ref (a_t 23), .long t_det, .ref (a_t 25), .int t_mask, .int t_mode, .int t_wanted, .int t_orders, .int t_foundAt, .long t_foundBy, .ref (a_t 32), .ref (a_t 33), .int t_unlikes, .ref (a_t 35), .ref (a_t 36)])), ((a_t 9), .inl (g.2.2.1 0, 600, .inl t_tape))]) (k := 0) cx hG hP hD hS 0 rfl (show ¬ ((0 : Int32) < 0 ∨ 27 ≤ (0 : Int32).toNatClampNeg) by decide) (by decide) rfl dX8_readsPlate_24 (fun H locs hP hD hS => ?_)
  have hG := hGk hS
  exact hrt (fun _ => 0) _ _ (upd t_mem 0 r14) w15 w16 w17 w18 w19 w20 w21 _ _ dX8_readsPlate_25 h (hP.sub [1, 0, 2] rfl) (hD.sub [1, 0, 2] (by decide) rfl) hS
-- X8_readsKind
theorem dX8_readsKind_0 : decode cX8_readsKind 0 = .ok (.aload_n 0, 1) := by decide +kernel
theorem dX8_readsKind_1 : decode cX8_readsKind 1 = .ok (.getfield 21, 3) := by decide +kernel
theorem dX8_readsKind_4 : decode cX8_readsKind 4 = .ok (.iconst 1, 1) := by decide +kernel
theorem dX8_readsKind_5 : decode cX8_readsKind 5 = .ok (.iaload, 1) := by decide +kernel
theorem dX8_readsKind_6 : decode cX8_readsKind 6 = .ok (.iconst 3, 1) := by decide +kernel
theorem dX8_readsKind_7 : decode cX8_readsKind 7 = .ok (.if_icmp .ne 8, 3) := by decide +kernel
theorem dX8_readsKind_10 : decode cX8_readsKind 10 = .ok (.aload_n 0, 1) := by decide +kernel
theorem dX8_readsKind_11 : decode cX8_readsKind 11 = .ok (.iconst 3, 1) := by decide +kernel
theorem dX8_readsKind_12 : decode cX8_readsKind 12 = .ok (.invokevirtual 125, 3) := by decide +kernel
theorem dX8_readsKind_15 : decode cX8_readsKind 15 = .ok (.aload_n 0, 1) := by decide +kernel
theorem dX8_readsKind_16 : decode cX8_readsKind 16 = .ok (.iconst 1, 1) := by decide +kernel
theorem dX8_readsKind_17 : decode cX8_readsKind 17 = .ok (.invokevirtual 132, 3) := by decide +kernel
theorem dX8_readsKind_20 : decode cX8_readsKind 20 = .ok (.aload_n 0, 1) := by decide +kernel
theorem dX8_readsKind_21 : decode cX8_readsKind 21 = .ok (.ldc 143, 2) := by decide +kernel
theorem dX8_readsKind_23 : decode cX8_readsKind 23 = .ok (.invokevirtual 136, 3) := by decide +kernel
theorem dX8_readsKind_26 : decode cX8_readsKind 26 = .ok (.ifCond .ne 21, 3) := by decide +kernel
theorem dX8_readsKind_29 : decode cX8_readsKind 29 = .ok (.aload_n 0, 1) := by decide +kernel
theorem dX8_readsKind_30 : decode cX8_readsKind 30 = .ok (.ldc 151, 2) := by decide +kernel
theorem dX8_readsKind_32 : decode cX8_readsKind 32 = .ok (.invokevirtual 136, 3) := by decide +kernel
theorem dX8_readsKind_35 : decode cX8_readsKind 35 = .ok (.ifCond .ne 12, 3) := by decide +kernel
theorem dX8_readsKind_38 : decode cX8_readsKind 38 = .ok (.aload_n 0, 1) := by decide +kernel
theorem dX8_readsKind_39 : decode cX8_readsKind 39 = .ok (.ldc 153, 2) := by decide +kernel
theorem dX8_readsKind_41 : decode cX8_readsKind 41 = .ok (.invokevirtual 136, 3) := by decide +kernel
theorem dX8_readsKind_44 : decode cX8_readsKind 44 = .ok (.ifCond .eq 7, 3) := by decide +kernel
theorem dX8_readsKind_47 : decode cX8_readsKind 47 = .ok (.iconst 1, 1) := by decide +kernel
theorem dX8_readsKind_48 : decode cX8_readsKind 48 = .ok (.goto 4, 3) := by decide +kernel
theorem dX8_readsKind_51 : decode cX8_readsKind 51 = .ok (.iconst 0, 1) := by decide +kernel
theorem dX8_readsKind_52 : decode cX8_readsKind 52 = .ok (.istore_n 1, 1) := by decide +kernel
theorem dX8_readsKind_53 : decode cX8_readsKind 53 = .ok (.aload_n 0, 1) := by decide +kernel
theorem dX8_readsKind_54 : decode cX8_readsKind 54 = .ok (.getfield 108, 3) := by decide +kernel
theorem dX8_readsKind_57 : decode cX8_readsKind 57 = .ok (.ifCond .ne 42, 3) := by decide +kernel
theorem dX8_readsKind_60 : decode cX8_readsKind 60 = .ok (.aload_n 0, 1) := by decide +kernel
theorem dX8_readsKind_61 : decode cX8_readsKind 61 = .ok (.getfield 100, 3) := by decide +kernel
theorem dX8_readsKind_64 : decode cX8_readsKind 64 = .ok (.iconst 1, 1) := by decide +kernel
theorem dX8_readsKind_65 : decode cX8_readsKind 65 = .ok (.if_icmp .ne 34, 3) := by decide +kernel
theorem dX8_readsKind_68 : decode cX8_readsKind 68 = .ok (.aload_n 0, 1) := by decide +kernel
theorem dX8_readsKind_69 : decode cX8_readsKind 69 = .ok (.getfield 87, 3) := by decide +kernel
theorem dX8_readsKind_72 : decode cX8_readsKind 72 = .ok (.aload_n 0, 1) := by decide +kernel
theorem dX8_readsKind_73 : decode cX8_readsKind 73 = .ok (.getfield 94, 3) := by decide +kernel
theorem dX8_readsKind_76 : decode cX8_readsKind 76 = .ok (.isub, 1) := by decide +kernel
theorem dX8_readsKind_77 : decode cX8_readsKind 77 = .ok (.bipush 6, 2) := by decide +kernel
theorem dX8_readsKind_79 : decode cX8_readsKind 79 = .ok (.if_icmp .gt 15, 3) := by decide +kernel
theorem dX8_readsKind_82 : decode cX8_readsKind 82 = .ok (.iload_n 1, 1) := by decide +kernel
theorem dX8_readsKind_83 : decode cX8_readsKind 83 = .ok (.ifCond .ne 11, 3) := by decide +kernel
theorem dX8_readsKind_86 : decode cX8_readsKind 86 = .ok (.aload_n 0, 1) := by decide +kernel
theorem dX8_readsKind_87 : decode cX8_readsKind 87 = .ok (.invokevirtual 155, 3) := by decide +kernel
theorem dX8_readsKind_90 : decode cX8_readsKind 90 = .ok (.iconst (-1), 1) := by decide +kernel
theorem dX8_readsKind_91 : decode cX8_readsKind 91 = .ok (.if_icmp .eq 8, 3) := by decide +kernel
theorem dX8_readsKind_94 : decode cX8_readsKind 94 = .ok (.aload_n 0, 1) := by decide +kernel
theorem dX8_readsKind_95 : decode cX8_readsKind 95 = .ok (.iconst 2, 1) := by decide +kernel
theorem dX8_readsKind_96 : decode cX8_readsKind 96 = .ok (.invokevirtual 125, 3) := by decide +kernel
theorem dX8_readsKind_99 : decode cX8_readsKind 99 = .ok (.aload_n 0, 1) := by decide +kernel
theorem dX8_readsKind_100 : decode cX8_readsKind 100 = .ok (.getfield 94, 3) := by decide +kernel
theorem dX8_readsKind_103 : decode cX8_readsKind 103 = .ok (.istore_n 2, 1) := by decide +kernel
theorem dX8_readsKind_104 : decode cX8_readsKind 104 = .ok (.aload_n 0, 1) := by decide +kernel
theorem dX8_readsKind_105 : decode cX8_readsKind 105 = .ok (.getfield 87, 3) := by decide +kernel
theorem dX8_readsKind_108 : decode cX8_readsKind 108 = .ok (.aload_n 0, 1) := by decide +kernel
theorem dX8_readsKind_109 : decode cX8_readsKind 109 = .ok (.getfield 94, 3) := by decide +kernel
theorem dX8_readsKind_112 : decode cX8_readsKind 112 = .ok (.isub, 1) := by decide +kernel
theorem dX8_readsKind_113 : decode cX8_readsKind 113 = .ok (.istore_n 3, 1) := by decide +kernel
theorem dX8_readsKind_114 : decode cX8_readsKind 114 = .ok (.aload_n 0, 1) := by decide +kernel
theorem dX8_readsKind_115 : decode cX8_readsKind 115 = .ok (.aload_n 0, 1) := by decide +kernel
theorem dX8_readsKind_116 : decode cX8_readsKind 116 = .ok (.getfield 108, 3) := by decide +kernel
theorem dX8_readsKind_119 : decode cX8_readsKind 119 = .ok (.ifCond .ne 11, 3) := by decide +kernel
theorem dX8_readsKind_122 : decode cX8_readsKind 122 = .ok (.aload_n 0, 1) := by decide +kernel
theorem dX8_readsKind_123 : decode cX8_readsKind 123 = .ok (.getfield 100, 3) := by decide +kernel
theorem dX8_readsKind_126 : decode cX8_readsKind 126 = .ok (.iconst 1, 1) := by decide +kernel
theorem dX8_readsKind_127 : decode cX8_readsKind 127 = .ok (.if_icmp .ne 7, 3) := by decide +kernel
theorem dX8_readsKind_130 : decode cX8_readsKind 130 = .ok (.iconst 1, 1) := by decide +kernel
theorem dX8_readsKind_131 : decode cX8_readsKind 131 = .ok (.goto 4, 3) := by decide +kernel
theorem dX8_readsKind_134 : decode cX8_readsKind 134 = .ok (.iconst 0, 1) := by decide +kernel
theorem dX8_readsKind_135 : decode cX8_readsKind 135 = .ok (.invokevirtual 132, 3) := by decide +kernel
theorem dX8_readsKind_138 : decode cX8_readsKind 138 = .ok (.iconst 4, 1) := by decide +kernel
theorem dX8_readsKind_139 : decode cX8_readsKind 139 = .ok (.iconst 5, 1) := by decide +kernel
theorem dX8_readsKind_140 : decode cX8_readsKind 140 = .ok (.aload_n 0, 1) := by decide +kernel
theorem dX8_readsKind_141 : decode cX8_readsKind 141 = .ok (.getfield 21, 3) := by decide +kernel
theorem dX8_readsKind_144 : decode cX8_readsKind 144 = .ok (.iconst 1, 1) := by decide +kernel
theorem dX8_readsKind_145 : decode cX8_readsKind 145 = .ok (.iaload, 1) := by decide +kernel
theorem dX8_readsKind_146 : decode cX8_readsKind 146 = .ok (.imul, 1) := by decide +kernel
theorem dX8_readsKind_147 : decode cX8_readsKind 147 = .ok (.iadd, 1) := by decide +kernel
theorem dX8_readsKind_148 : decode cX8_readsKind 148 = .ok (.istore 4, 2) := by decide +kernel
theorem dX8_readsKind_150 : decode cX8_readsKind 150 = .ok (.aload_n 0, 1) := by decide +kernel
theorem dX8_readsKind_151 : decode cX8_readsKind 151 = .ok (.ldc 158, 2) := by decide +kernel
theorem dX8_readsKind_153 : decode cX8_readsKind 153 = .ok (.iconst 1, 1) := by decide +kernel
theorem dX8_readsKind_154 : decode cX8_readsKind 154 = .ok (.bipush 99, 2) := by decide +kernel
theorem dX8_readsKind_156 : decode cX8_readsKind 156 = .ok (.invokevirtual 147, 3) := by decide +kernel
theorem dX8_readsKind_159 : decode cX8_readsKind 159 = .ok (.istore 5, 2) := by decide +kernel
theorem dX8_readsKind_161 : decode cX8_readsKind 161 = .ok (.aload_n 0, 1) := by decide +kernel
theorem dX8_readsKind_162 : decode cX8_readsKind 162 = .ok (.ldc 160, 2) := by decide +kernel
theorem dX8_readsKind_164 : decode cX8_readsKind 164 = .ok (.iconst 0, 1) := by decide +kernel
theorem dX8_readsKind_165 : decode cX8_readsKind 165 = .ok (.bipush 99, 2) := by decide +kernel
theorem dX8_readsKind_167 : decode cX8_readsKind 167 = .ok (.invokevirtual 147, 3) := by decide +kernel
theorem dX8_readsKind_170 : decode cX8_readsKind 170 = .ok (.istore 6, 2) := by decide +kernel
theorem dX8_readsKind_172 : decode cX8_readsKind 172 = .ok (.aload_n 0, 1) := by decide +kernel
theorem dX8_readsKind_173 : decode cX8_readsKind 173 = .ok (.ldc 162, 2) := by decide +kernel
theorem dX8_readsKind_175 : decode cX8_readsKind 175 = .ok (.iconst 0, 1) := by decide +kernel
theorem dX8_readsKind_176 : decode cX8_readsKind 176 = .ok (.bipush 99, 2) := by decide +kernel
theorem dX8_readsKind_178 : decode cX8_readsKind 178 = .ok (.invokevirtual 147, 3) := by decide +kernel
theorem dX8_readsKind_181 : decode cX8_readsKind 181 = .ok (.istore 7, 2) := by decide +kernel
theorem dX8_readsKind_183 : decode cX8_readsKind 183 = .ok (.aload_n 0, 1) := by decide +kernel
theorem dX8_readsKind_184 : decode cX8_readsKind 184 = .ok (.ldc 164, 2) := by decide +kernel
theorem dX8_readsKind_186 : decode cX8_readsKind 186 = .ok (.iconst 0, 1) := by decide +kernel
theorem dX8_readsKind_187 : decode cX8_readsKind 187 = .ok (.bipush 99, 2) := by decide +kernel
theorem dX8_readsKind_189 : decode cX8_readsKind 189 = .ok (.invokevirtual 147, 3) := by decide +kernel
theorem dX8_readsKind_192 : decode cX8_readsKind 192 = .ok (.istore 8, 2) := by decide +kernel
theorem dX8_readsKind_194 : decode cX8_readsKind 194 = .ok (.aload_n 0, 1) := by decide +kernel
theorem dX8_readsKind_195 : decode cX8_readsKind 195 = .ok (.ldc 166, 2) := by decide +kernel
theorem dX8_readsKind_197 : decode cX8_readsKind 197 = .ok (.iconst 1, 1) := by decide +kernel
theorem dX8_readsKind_198 : decode cX8_readsKind 198 = .ok (.sipush 999, 3) := by decide +kernel
theorem dX8_readsKind_201 : decode cX8_readsKind 201 = .ok (.invokevirtual 147, 3) := by decide +kernel
theorem dX8_readsKind_204 : decode cX8_readsKind 204 = .ok (.istore 9, 2) := by decide +kernel
theorem dX8_readsKind_206 : decode cX8_readsKind 206 = .ok (.aload_n 0, 1) := by decide +kernel
theorem dX8_readsKind_207 : decode cX8_readsKind 207 = .ok (.getfield 108, 3) := by decide +kernel
theorem dX8_readsKind_210 : decode cX8_readsKind 210 = .ok (.ifCond .eq 4, 3) := by decide +kernel
theorem dX8_readsKind_213 : decode cX8_readsKind 213 = .ok (.return_, 1) := by decide +kernel
theorem dX8_readsKind_214 : decode cX8_readsKind 214 = .ok (.aload_n 0, 1) := by decide +kernel
theorem dX8_readsKind_215 : decode cX8_readsKind 215 = .ok (.getfield 21, 3) := by decide +kernel
theorem dX8_readsKind_218 : decode cX8_readsKind 218 = .ok (.iload 4, 2) := by decide +kernel
theorem dX8_readsKind_220 : decode cX8_readsKind 220 = .ok (.iload 5, 2) := by decide +kernel
theorem dX8_readsKind_222 : decode cX8_readsKind 222 = .ok (.iastore, 1) := by decide +kernel
theorem dX8_readsKind_223 : decode cX8_readsKind 223 = .ok (.aload_n 0, 1) := by decide +kernel
theorem dX8_readsKind_224 : decode cX8_readsKind 224 = .ok (.getfield 21, 3) := by decide +kernel
theorem dX8_readsKind_227 : decode cX8_readsKind 227 = .ok (.iload 4, 2) := by decide +kernel
theorem dX8_readsKind_229 : decode cX8_readsKind 229 = .ok (.iconst 1, 1) := by decide +kernel
theorem dX8_readsKind_230 : decode cX8_readsKind 230 = .ok (.iadd, 1) := by decide +kernel
theorem dX8_readsKind_231 : decode cX8_readsKind 231 = .ok (.iload 6, 2) := by decide +kernel
theorem dX8_readsKind_233 : decode cX8_readsKind 233 = .ok (.iastore, 1) := by decide +kernel
theorem dX8_readsKind_234 : decode cX8_readsKind 234 = .ok (.aload_n 0, 1) := by decide +kernel
theorem dX8_readsKind_235 : decode cX8_readsKind 235 = .ok (.getfield 21, 3) := by decide +kernel
theorem dX8_readsKind_238 : decode cX8_readsKind 238 = .ok (.iload 4, 2) := by decide +kernel
theorem dX8_readsKind_240 : decode cX8_readsKind 240 = .ok (.iconst 2, 1) := by decide +kernel
theorem dX8_readsKind_241 : decode cX8_readsKind 241 = .ok (.iadd, 1) := by decide +kernel
theorem dX8_readsKind_242 : decode cX8_readsKind 242 = .ok (.iload 7, 2) := by decide +kernel
theorem dX8_readsKind_244 : decode cX8_readsKind 244 = .ok (.iastore, 1) := by decide +kernel
theorem dX8_readsKind_245 : decode cX8_readsKind 245 = .ok (.aload_n 0, 1) := by decide +kernel
theorem dX8_readsKind_246 : decode cX8_readsKind 246 = .ok (.getfield 21, 3) := by decide +kernel
theorem dX8_readsKind_249 : decode cX8_readsKind 249 = .ok (.iload 4, 2) := by decide +kernel
theorem dX8_readsKind_251 : decode cX8_readsKind 251 = .ok (.iconst 3, 1) := by decide +kernel
theorem dX8_readsKind_252 : decode cX8_readsKind 252 = .ok (.iadd, 1) := by decide +kernel
theorem dX8_readsKind_253 : decode cX8_readsKind 253 = .ok (.iload 8, 2) := by decide +kernel
theorem dX8_readsKind_255 : decode cX8_readsKind 255 = .ok (.iastore, 1) := by decide +kernel
theorem dX8_readsKind_256 : decode cX8_readsKind 256 = .ok (.aload_n 0, 1) := by decide +kernel
theorem dX8_readsKind_257 : decode cX8_readsKind 257 = .ok (.getfield 21, 3) := by decide +kernel
theorem dX8_readsKind_260 : decode cX8_readsKind 260 = .ok (.iload 4, 2) := by decide +kernel
theorem dX8_readsKind_262 : decode cX8_readsKind 262 = .ok (.iconst 4, 1) := by decide +kernel
theorem dX8_readsKind_263 : decode cX8_readsKind 263 = .ok (.iadd, 1) := by decide +kernel
theorem dX8_readsKind_264 : decode cX8_readsKind 264 = .ok (.iload 9, 2) := by decide +kernel
theorem dX8_readsKind_266 : decode cX8_readsKind 266 = .ok (.iastore, 1) := by decide +kernel
theorem dX8_readsKind_267 : decode cX8_readsKind 267 = .ok (.aload_n 0, 1) := by decide +kernel
theorem dX8_readsKind_268 : decode cX8_readsKind 268 = .ok (.getfield 51, 3) := by decide +kernel
theorem dX8_readsKind_271 : decode cX8_readsKind 271 = .ok (.aload_n 0, 1) := by decide +kernel
theorem dX8_readsKind_272 : decode cX8_readsKind 272 = .ok (.getfield 21, 3) := by decide +kernel
theorem dX8_readsKind_275 : decode cX8_readsKind 275 = .ok (.iconst 1, 1) := by decide +kernel
theorem dX8_readsKind_276 : decode cX8_readsKind 276 = .ok (.iaload, 1) := by decide +kernel
theorem dX8_readsKind_277 : decode cX8_readsKind 277 = .ok (.iload_n 2, 1) := by decide +kernel
theorem dX8_readsKind_278 : decode cX8_readsKind 278 = .ok (.iastore, 1) := by decide +kernel
theorem dX8_readsKind_279 : decode cX8_readsKind 279 = .ok (.aload_n 0, 1) := by decide +kernel
theorem dX8_readsKind_280 : decode cX8_readsKind 280 = .ok (.getfield 54, 3) := by decide +kernel
theorem dX8_readsKind_283 : decode cX8_readsKind 283 = .ok (.aload_n 0, 1) := by decide +kernel
theorem dX8_readsKind_284 : decode cX8_readsKind 284 = .ok (.getfield 21, 3) := by decide +kernel
theorem dX8_readsKind_287 : decode cX8_readsKind 287 = .ok (.iconst 1, 1) := by decide +kernel
theorem dX8_readsKind_288 : decode cX8_readsKind 288 = .ok (.iaload, 1) := by decide +kernel
theorem dX8_readsKind_289 : decode cX8_readsKind 289 = .ok (.iload_n 3, 1) := by decide +kernel
theorem dX8_readsKind_290 : decode cX8_readsKind 290 = .ok (.iastore, 1) := by decide +kernel
theorem dX8_readsKind_291 : decode cX8_readsKind 291 = .ok (.aload_n 0, 1) := by decide +kernel
theorem dX8_readsKind_292 : decode cX8_readsKind 292 = .ok (.getfield 21, 3) := by decide +kernel
theorem dX8_readsKind_295 : decode cX8_readsKind 295 = .ok (.iconst 1, 1) := by decide +kernel
theorem dX8_readsKind_296 : decode cX8_readsKind 296 = .ok (.dup2, 1) := by decide +kernel
theorem dX8_readsKind_297 : decode cX8_readsKind 297 = .ok (.iaload, 1) := by decide +kernel
theorem dX8_readsKind_298 : decode cX8_readsKind 298 = .ok (.iconst 1, 1) := by decide +kernel
theorem dX8_readsKind_299 : decode cX8_readsKind 299 = .ok (.iadd, 1) := by decide +kernel
theorem dX8_readsKind_300 : decode cX8_readsKind 300 = .ok (.iastore, 1) := by decide +kernel
theorem dX8_readsKind_301 : decode cX8_readsKind 301 = .ok (.return_, 1) := by decide +kernel
noncomputable def fX8_readsKind_135  (t_mem : Nat → Int32) (t_tape : Nat → Int32) (t_taped : Int32) (t_faultKind : Int32) (t_faultPlace : Int32) (t_at : Int32) (t_begin : Int32) (t_token : Int32) (t_value : Int32) (t_bad : Int32) (t_nameAt : Nat → Int32) (t_nameLong : Nat → Int32) (v2 : Int32) (v3 : Int32) (z1 : Int32) : Option ((Nat → Int32) × Int32 × Int32 × Int32 × Int32 × Int32 × Int32 × Int32 × (Nat → Int32) × (Nat → Int32)) := ob7 (fX8_passes t_tape t_taped t_faultKind t_faultPlace t_at t_begin t_token t_value t_bad z1) fun w43 w44 w45 w46 w47 w48 w49 => ob8 (fX8_readsNamed t_tape t_taped w43 w44 w45 w46 w47 w48 w49 4 1 99) fun r52 w53 w54 w55 w56 w57 w58 w59 => ob8 (fX8_readsNamed t_tape t_taped w53 w54 w55 w56 w57 w58 w59 5 0 99) fun r62 w63 w64 w65 w66 w67 w68 w69 => ob8 (fX8_readsNamed t_tape t_taped w63 w64 w65 w66 w67 w68 w69 6 0 99) fun r72 w73 w74 w75 w76 w77 w78 w79 => ob8 (fX8_readsNamed t_tape t_taped w73 w74 w75 w76 w77 w78 w79 7 0 99) fun r82 w83 w84 w85 w86 w87 w88 w89 => ob8 (fX8_readsNamed t_tape t_taped w83 w84 w85 w86 w87 w88 w89 8 1 999) fun r92 w93 w94 w95 w96 w97 w98 w99 => (if w99 = 0 then chk 27 (4 + (5 * (t_mem 1))) (chk 27 ((4 + (5 * (t_mem 1))) + 1) (chk 27 ((4 + (5 * (t_mem 1))) + 2) (chk 27 ((4 + (5 * (t_mem 1))) + 3) (chk 27 ((4 + (5 * (t_mem 1))) + 4) (chk 3 ((upd (upd (upd (upd (upd t_mem ((4 + (5 * (t_mem 1))).toNatClampNeg) r52) (((4 + (5 * (t_mem 1))) + 1).toNatClampNeg) r62) (((4 + (5 * (t_mem 1))) + 2).toNatClampNeg) r72) (((4 + (5 * (t_mem 1))) + 3).toNatClampNeg) r82) (((4 + (5 * (t_mem 1))) + 4).toNatClampNeg) r92) 1) (chk 3 ((upd (upd (upd (upd (upd t_mem ((4 + (5 * (t_mem 1))).toNatClampNeg) r52) (((4 + (5 * (t_mem 1))) + 1).toNatClampNeg) r62) (((4 + (5 * (t_mem 1))) + 2).toNatClampNeg) r72) (((4 + (5 * (t_mem 1))) + 3).toNatClampNeg) r82) (((4 + (5 * (t_mem 1))) + 4).toNatClampNeg) r92) 1) (some (upd (upd (upd (upd (upd (upd t_mem ((4 + (5 * (t_mem 1))).toNatClampNeg) r52) (((4 + (5 * (t_mem 1))) + 1).toNatClampNeg) r62) (((4 + (5 * (t_mem 1))) + 2).toNatClampNeg) r72) (((4 + (5 * (t_mem 1))) + 3).toNatClampNeg) r82) (((4 + (5 * (t_mem 1))) + 4).toNatClampNeg) r92) 1 (((upd (upd (upd (upd (upd t_mem ((4 + (5 * (t_mem 1))).toNatClampNeg) r52) (((4 + (5 * (t_mem 1))) + 1).toNatClampNeg) r62) (((4 + (5 * (t_mem 1))) + 2).toNatClampNeg) r72) (((4 + (5 * (t_mem 1))) + 3).toNatClampNeg) r82) (((4 + (5 * (t_mem 1))) + 4).toNatClampNeg) r92) 1) + 1), w93, w94, w95, w96, w97, w98, w99, upd t_nameAt (((upd (upd (upd (upd (upd t_mem ((4 + (5 * (t_mem 1))).toNatClampNeg) r52) (((4 + (5 * (t_mem 1))) + 1).toNatClampNeg) r62) (((4 + (5 * (t_mem 1))) + 2).toNatClampNeg) r72) (((4 + (5 * (t_mem 1))) + 3).toNatClampNeg) r82) (((4 + (5 * (t_mem 1))) + 4).toNatClampNeg) r92) 1).toNatClampNeg) v2, upd t_nameLong (((upd (upd (upd (upd (upd t_mem ((4 + (5 * (t_mem 1))).toNatClampNeg) r52) (((4 + (5 * (t_mem 1))) + 1).toNatClampNeg) r62) (((4 + (5 * (t_mem 1))) + 2).toNatClampNeg) r72) (((4 + (5 * (t_mem 1))) + 3).toNatClampNeg) r82) (((4 + (5 * (t_mem 1))) + 4).toNatClampNeg) r92) 1).toNatClampNeg) v3)))))))) else some (t_mem, w93, w94, w95, w96, w97, w98, w99, t_nameAt, t_nameLong))
noncomputable def fX8_readsKind_130  (t_mem : Nat → Int32) (t_tape : Nat → Int32) (t_taped : Int32) (t_faultKind : Int32) (t_faultPlace : Int32) (t_at : Int32) (t_begin : Int32) (t_token : Int32) (t_value : Int32) (t_bad : Int32) (t_nameAt : Nat → Int32) (t_nameLong : Nat → Int32) (v2 : Int32) (v3 : Int32) : Option ((Nat → Int32) × Int32 × Int32 × Int32 × Int32 × Int32 × Int32 × Int32 × (Nat → Int32) × (Nat → Int32)) := fX8_readsKind_135 t_mem t_tape t_taped t_faultKind t_faultPlace t_at t_begin t_token t_value t_bad t_nameAt t_nameLong v2 v3 1
noncomputable def fX8_readsKind_99  (t_mem : Nat → Int32) (t_tape : Nat → Int32) (t_taped : Int32) (t_faultKind : Int32) (t_faultPlace : Int32) (t_at : Int32) (t_begin : Int32) (t_token : Int32) (t_value : Int32) (t_bad : Int32) (t_nameAt : Nat → Int32) (t_nameLong : Nat → Int32) : Option ((Nat → Int32) × Int32 × Int32 × Int32 × Int32 × Int32 × Int32 × Int32 × (Nat → Int32) × (Nat → Int32)) := (if t_bad = 0 then (if t_token = 1 then fX8_readsKind_130 t_mem t_tape t_taped t_faultKind t_faultPlace t_at t_begin t_token t_value t_bad t_nameAt t_nameLong t_begin (t_at - t_begin) else fX8_readsKind_135 t_mem t_tape t_taped t_faultKind t_faultPlace t_at t_begin t_token t_value t_bad t_nameAt t_nameLong t_begin (t_at - t_begin) 0) else fX8_readsKind_130 t_mem t_tape t_taped t_faultKind t_faultPlace t_at t_begin t_token t_value t_bad t_nameAt t_nameLong t_begin (t_at - t_begin))
noncomputable def fX8_readsKind_94  (t_mem : Nat → Int32) (t_tape : Nat → Int32) (t_taped : Int32) (t_faultKind : Int32) (t_faultPlace : Int32) (t_at : Int32) (t_begin : Int32) (t_token : Int32) (t_value : Int32) (t_bad : Int32) (t_nameAt : Nat → Int32) (t_nameLong : Nat → Int32) : Option ((Nat → Int32) × Int32 × Int32 × Int32 × Int32 × Int32 × Int32 × Int32 × (Nat → Int32) × (Nat → Int32)) := ob3 (fX8_faults t_faultKind t_faultPlace t_begin t_bad 2) fun w36 w37 w38 => fX8_readsKind_99 t_mem t_tape t_taped w36 w37 t_at t_begin t_token t_value w38 t_nameAt t_nameLong
noncomputable def fX8_readsKind_52  (t_mem : Nat → Int32) (t_tape : Nat → Int32) (t_taped : Int32) (t_faultKind : Int32) (t_faultPlace : Int32) (t_at : Int32) (t_begin : Int32) (t_token : Int32) (t_value : Int32) (t_bad : Int32) (t_nameAt : Nat → Int32) (t_nameLong : Nat → Int32) (z0 : Int32) : Option ((Nat → Int32) × Int32 × Int32 × Int32 × Int32 × Int32 × Int32 × Int32 × (Nat → Int32) × (Nat → Int32)) := (if t_bad = 0 then (if t_token = 1 then (if 6 < (t_at - t_begin) then fX8_readsKind_94 t_mem t_tape t_taped t_faultKind t_faultPlace t_at t_begin t_token t_value t_bad t_nameAt t_nameLong else (if z0 = 0 then (fX8_kindHere t_mem t_tape t_at t_begin t_nameAt t_nameLong).bind fun r32 => (if r32 = (-1) then fX8_readsKind_99 t_mem t_tape t_taped t_faultKind t_faultPlace t_at t_begin t_token t_value t_bad t_nameAt t_nameLong else fX8_readsKind_94 t_mem t_tape t_taped t_faultKind t_faultPlace t_at t_begin t_token t_value t_bad t_nameAt t_nameLong) else fX8_readsKind_94 t_mem t_tape t_taped t_faultKind t_faultPlace t_at t_begin t_token t_value t_bad t_nameAt t_nameLong)) else fX8_readsKind_99 t_mem t_tape t_taped t_faultKind t_faultPlace t_at t_begin t_token t_value t_bad t_nameAt t_nameLong) else fX8_readsKind_99 t_mem t_tape t_taped t_faultKind t_faultPlace t_at t_begin t_token t_value t_bad t_nameAt t_nameLong)
noncomputable def fX8_readsKind_47  (t_mem : Nat → Int32) (t_tape : Nat → Int32) (t_taped : Int32) (t_faultKind : Int32) (t_faultPlace : Int32) (t_at : Int32) (t_begin : Int32) (t_token : Int32) (t_value : Int32) (t_bad : Int32) (t_nameAt : Nat → Int32) (t_nameLong : Nat → Int32) : Option ((Nat → Int32) × Int32 × Int32 × Int32 × Int32 × Int32 × Int32 × Int32 × (Nat → Int32) × (Nat → Int32)) := fX8_readsKind_52 t_mem t_tape t_taped t_faultKind t_faultPlace t_at t_begin t_token t_value t_bad t_nameAt t_nameLong 1
noncomputable def fX8_readsKind_15  (t_mem : Nat → Int32) (t_tape : Nat → Int32) (t_taped : Int32) (t_faultKind : Int32) (t_faultPlace : Int32) (t_at : Int32) (t_begin : Int32) (t_token : Int32) (t_value : Int32) (t_bad : Int32) (t_nameAt : Nat → Int32) (t_nameLong : Nat → Int32) : Option ((Nat → Int32) × Int32 × Int32 × Int32 × Int32 × Int32 × Int32 × Int32 × (Nat → Int32) × (Nat → Int32)) := ob7 (fX8_passes t_tape t_taped t_faultKind t_faultPlace t_at t_begin t_token t_value t_bad 1) fun w8 w9 w10 w11 w12 w13 w14 => (fX8_isWord t_tape w10 w11 w12 0).bind fun r16 => (if r16 = 0 then (fX8_isWord t_tape w10 w11 w12 2).bind fun r20 => (if r20 = 0 then (fX8_isWord t_tape w10 w11 w12 3).bind fun r24 => (if r24 = 0 then fX8_readsKind_52 t_mem t_tape t_taped w8 w9 w10 w11 w12 w13 w14 t_nameAt t_nameLong 0 else fX8_readsKind_47 t_mem t_tape t_taped w8 w9 w10 w11 w12 w13 w14 t_nameAt t_nameLong) else fX8_readsKind_47 t_mem t_tape t_taped w8 w9 w10 w11 w12 w13 w14 t_nameAt t_nameLong) else fX8_readsKind_47 t_mem t_tape t_taped w8 w9 w10 w11 w12 w13 w14 t_nameAt t_nameLong)
noncomputable def fX8_readsKind  (t_mem : Nat → Int32) (t_tape : Nat → Int32) (t_taped : Int32) (t_faultKind : Int32) (t_faultPlace : Int32) (t_at : Int32) (t_begin : Int32) (t_token : Int32) (t_value : Int32) (t_bad : Int32) (t_nameAt : Nat → Int32) (t_nameLong : Nat → Int32) : Option ((Nat → Int32) × Int32 × Int32 × Int32 × Int32 × Int32 × Int32 × Int32 × (Nat → Int32) × (Nat → Int32)) := (if (t_mem 1) = 3 then ob3 (fX8_faults t_faultKind t_faultPlace t_begin t_bad 3) fun w3 w4 w5 => fX8_readsKind_15 t_mem t_tape t_taped w3 w4 t_at t_begin t_token t_value w5 t_nameAt t_nameLong else fX8_readsKind_15 t_mem t_tape t_taped t_faultKind t_faultPlace t_at t_begin t_token t_value t_bad t_nameAt t_nameLong)
set_option maxHeartbeats 4000000 in
set_option maxRecDepth 100000 in
theorem ctX8_readsKind (l : Launch) (g : GT) (sz : Nat) (a_t : Nat → Nat) (t_acted : Int32) (t_taped : Int32) (t_faultKind : Int32) (t_faultPlace : Int32) (t_at : Int32) (t_begin : Int32) (t_token : Int32) (t_value : Int32) (t_bad : Int32) (t_wide : Int32) (t_lost : Int32) (t_det : Int64) (t_mask : Int32) (t_mode : Int32) (t_wanted : Int32) (t_orders : Int32) (t_foundAt : Int32) (t_foundBy : Int64) (t_unlikes : Int32) (t_mem : Nat → Int32) (t_tape : Nat → Int32) (t_nameAt : Nat → Int32) (t_nameLong : Nat → Int32) (o_t_mem : Nat → Int32) (o_t_faultKind : Int32) (o_t_faultPlace : Int32) (o_t_at : Int32) (o_t_begin : Int32) (o_t_token : Int32) (o_t_value : Int32) (o_t_bad : Int32) (o_t_nameAt : Nat → Int32) (o_t_nameLong : Nat → Int32) (h : fX8_readsKind t_mem t_tape t_taped t_faultKind t_faultPlace t_at t_begin t_token t_value t_bad t_nameAt t_nameLong = some (o_t_mem, o_t_faultKind, o_t_faultPlace, o_t_at, o_t_begin, o_t_token, o_t_value, o_t_bad, o_t_nameAt, o_t_nameLong)) : Met l yX8_readsKind (Cond.code yX8_readsKind cX8_readsKind 10 none :: Tw) ⟨10, 0, 0, 196⟩ (va_Pc [.ref ((a_t 0))] (rwB g [((a_t 0), .inr (7, [.ref (a_t 1), .ref (a_t 2), .int t_acted, .ref (a_t 4), .ref (a_t 5), .ref (a_t 6), .ref (a_t 7), .ref (a_t 8), .ref (a_t 9), .int t_taped, .int t_faultKind, .int t_faultPlace, .int t_at, .int t_begin, .int t_token, .int t_value, .int t_bad, .ref (a_t 18), .ref (a_t 19), .ref (a_t 20), .int t_wide, .int t_lost, .ref (a_t 23), .long t_det, .ref (a_t 25), .int t_mask, .int t_mode, .int t_wanted, .int t_orders, .int t_foundAt, .long t_foundBy, .ref (a_t 32), .ref (a_t 33), .int t_unlikes, .ref (a_t 35), .ref (a_t 36)])), ((a_t 1), .inl (g.2.2.1 0, 27, .inl t_mem)), ((a_t 9), .inl (g.2.2.1 0, 600, .inl t_tape)), ((a_t 18), .inl (g.2.2.1 0, 3, .inl t_nameAt)), ((a_t 19), .inl (g.2.2.1 0, 3, .inl t_nameLong))] sz)) (va_Qv (fun (_ : Nat → Nat) => True) (fun u => rwE g (va_A [((a_t 0), .inr (7, [.ref (a_t 1), .ref (a_t 2), .int t_acted, .ref (a_t 4), .ref (a_t 5), .ref (a_t 6), .ref (a_t 7), .ref (a_t 8), .ref (a_t 9), .int t_taped, .int t_faultKind, .int t_faultPlace, .int t_at, .int t_begin, .int t_token, .int t_value, .int t_bad, .ref (a_t 18), .ref (a_t 19), .ref (a_t 20), .int t_wide, .int t_lost, .ref (a_t 23), .long t_det, .ref (a_t 25), .int t_mask, .int t_mode, .int t_wanted, .int t_orders, .int t_foundAt, .long t_foundBy, .ref (a_t 32), .ref (a_t 33), .int t_unlikes, .ref (a_t 35), .ref (a_t 36)])), ((a_t 1), .inl (g.2.2.1 0, 27, .inl t_mem)), ((a_t 9), .inl (g.2.2.1 0, 600, .inl t_tape)), ((a_t 18), .inl (g.2.2.1 0, 3, .inl t_nameAt)), ((a_t 19), .inl (g.2.2.1 0, 3, .inl t_nameLong))] sz) [((a_t 0), .inr (7, [.ref (a_t 1), .ref (a_t 2), .int t_acted, .ref (a_t 4), .ref (a_t 5), .ref (a_t 6), .ref (a_t 7), .ref (a_t 8), .ref (a_t 9), .int t_taped, .int o_t_faultKind, .int o_t_faultPlace, .int o_t_at, .int o_t_begin, .int o_t_token, .int o_t_value, .int o_t_bad, .ref (a_t 18), .ref (a_t 19), .ref (a_t 20), .int t_wide, .int t_lost, .ref (a_t 23), .long t_det, .ref (a_t 25), .int t_mask, .int t_mode, .int t_wanted, .int t_orders, .int t_foundAt, .long t_foundBy, .ref (a_t 32), .ref (a_t 33), .int t_unlikes, .ref (a_t 35), .ref (a_t 36)])), ((a_t 1), .inl (g.2.2.1 0, 27, .inl o_t_mem)), ((a_t 9), .inl (g.2.2.1 0, 600, .inl t_tape)), ((a_t 18), .inl (g.2.2.1 0, 3, .inl o_t_nameAt)), ((a_t 19), .inl (g.2.2.1 0, 3, .inl o_t_nameLong))]) (va_A [((a_t 0), .inr (7, [.ref (a_t 1), .ref (a_t 2), .int t_acted, .ref (a_t 4), .ref (a_t 5), .ref (a_t 6), .ref (a_t 7), .ref (a_t 8), .ref (a_t 9), .int t_taped, .int t_faultKind, .int t_faultPlace, .int t_at, .int t_begin, .int t_token, .int t_value, .int t_bad, .ref (a_t 18), .ref (a_t 19), .ref (a_t 20), .int t_wide, .int t_lost, .ref (a_t 23), .long t_det, .ref (a_t 25), .int t_mask, .int t_mode, .int t_wanted, .int t_orders, .int t_foundAt, .long t_foundBy, .ref (a_t 32), .ref (a_t 33), .int t_unlikes, .ref (a_t 35), .ref (a_t 36)])), ((a_t 1), .inl (g.2.2.1 0, 27, .inl t_mem)), ((a_t 9), .inl (g.2.2.1 0, 600, .inl t_tape)), ((a_t 18), .inl (g.2.2.1 0, 3, .inl t_nameAt)), ((a_t 19), .inl (g.2.2.1 0, 3, .inl t_nameLong))] sz)) 0 0 (va_A [((a_t 0), .inr (7, [.ref (a_t 1), .ref (a_t 2), .int t_acted, .ref (a_t 4), .ref (a_t 5), .ref (a_t 6), .ref (a_t 7), .ref (a_t 8), .ref (a_t 9), .int t_taped, .int t_faultKind, .int t_faultPlace, .int t_at, .int t_begin, .int t_token, .int t_value, .int t_bad, .ref (a_t 18), .ref (a_t 19), .ref (a_t 20), .int t_wide, .int t_lost, .ref (a_t 23), .long t_det, .ref (a_t 25), .int t_mask, .int t_mode, .int t_wanted, .int t_orders, .int t_foundAt, .long t_foundBy, .ref (a_t 32), .ref (a_t 33), .int t_unlikes, .ref (a_t 35), .ref (a_t 36)])), ((a_t 1), .inl (g.2.2.1 0, 27, .inl t_mem)), ((a_t 9), .inl (g.2.2.1 0, 600, .inl t_tape)), ((a_t 18), .inl (g.2.2.1 0, 3, .inl t_nameAt)), ((a_t 19), .inl (g.2.2.1 0, 3, .inl t_nameLong))] sz) := by
  refine rw_metv (by decide) (Nat.le_of_ble_eq_true rfl) (lv0 := [(0, .ref ((a_t 0)))]) rfl ?_
  intro p e s m args below meth c ls Q A cx hret hG hAb hb0 hA hP hD hl
  have hx := cx.1
  have hb := cx.2.1
  have hG0 := hG
  have hGk : ∀ {H : Heap} {locs : List Loc}, va_S A s.heap H locs → GE g s H := fun hS => hG0.keptS hAb hS
  have hSb : ∀ {H : Heap} {locs : List Loc}, va_S A s.heap H locs → va_S (fun a => g.1 ≤ a) s.heap H locs := fun hS => ⟨hS.1, fun q h1 h2 => hS.2.1 q h1 (fun z => h2 (hAb q z)), fun l hl => hAb _ (hS.2.2 l hl)⟩
  have hS : va_S A s.heap s.heap [] := va_S.rf
  have hrt : ∀ (u : Nat → Nat) (pc : Nat) (ls : Array Slot) (x_t_mem : Nat → Int32) (x_t_faultKind : Int32) (x_t_faultPlace : Int32) (x_t_at : Int32) (x_t_begin : Int32) (x_t_token : Int32) (x_t_value : Int32) (x_t_bad : Int32) (x_t_nameAt : Nat → Int32) (x_t_nameLong : Nat → Int32) (H : Heap) (locs : List Loc), decode cX8_readsKind pc = .ok (.return_, 1) → some (x_t_mem, x_t_faultKind, x_t_faultPlace, x_t_at, x_t_begin, x_t_token, x_t_value, x_t_bad, x_t_nameAt, x_t_nameLong) = some (o_t_mem, o_t_faultKind, o_t_faultPlace, o_t_at, o_t_begin, o_t_token, o_t_value, o_t_bad, o_t_nameAt, o_t_nameLong) → va_P g.2.1 vwCl [((a_t 0), .inr (7, [.ref (a_t 1), .ref (a_t 2), .int t_acted, .ref (a_t 4), .ref (a_t 5), .ref (a_t 6), .ref (a_t 7), .ref (a_t 8), .ref (a_t 9), .int t_taped, .int x_t_faultKind, .int x_t_faultPlace, .int x_t_at, .int x_t_begin, .int x_t_token, .int x_t_value, .int x_t_bad, .ref (a_t 18), .ref (a_t 19), .ref (a_t 20), .int t_wide, .int t_lost, .ref (a_t 23), .long t_det, .ref (a_t 25), .int t_mask, .int t_mode, .int t_wanted, .int t_orders, .int t_foundAt, .long t_foundBy, .ref (a_t 32), .ref (a_t 33), .int t_unlikes, .ref (a_t 35), .ref (a_t 36)])), ((a_t 1), .inl (g.2.2.1 0, 27, .inl x_t_mem)), ((a_t 9), .inl (g.2.2.1 0, 600, .inl t_tape)), ((a_t 18), .inl (g.2.2.1 0, 3, .inl x_t_nameAt)), ((a_t 19), .inl (g.2.2.1 0, 3, .inl x_t_nameLong))] H → va_D A [((a_t 0), .inr (7, [.ref (a_t 1), .ref (a_t 2), .int t_acted, .ref (a_t 4), .ref (a_t 5), .ref (a_t 6), .ref (a_t 7), .ref (a_t 8), .ref (a_t 9), .int t_taped, .int x_t_faultKind, .int x_t_faultPlace, .int x_t_at, .int x_t_begin, .int x_t_token, .int x_t_value, .int x_t_bad, .ref (a_t 18), .ref (a_t 19), .ref (a_t 20), .int t_wide, .int t_lost, .ref (a_t 23), .long t_det, .ref (a_t 25), .int t_mask, .int t_mode, .int t_wanted, .int t_orders, .int t_foundAt, .long t_foundBy, .ref (a_t 32), .ref (a_t 33), .int t_unlikes, .ref (a_t 35), .ref (a_t 36)])), ((a_t 1), .inl (g.2.2.1 0, 27, .inl x_t_mem)), ((a_t 9), .inl (g.2.2.1 0, 600, .inl t_tape)), ((a_t 18), .inl (g.2.2.1 0, 3, .inl x_t_nameAt)), ((a_t 19), .inl (g.2.2.1 0, 3, .inl x_t_nameLong))] → va_S A s.heap H locs → W p l e ⟨10, 0, 0, 196⟩ s m args below meth c H locs 0 0 Q (F0 m pc ls []) := by
    intro u pc ls x_t_mem x_t_faultKind x_t_faultPlace x_t_at x_t_begin x_t_token x_t_value x_t_bad x_t_nameAt x_t_nameLong H locs hd h hP hD hS
    cases h
    exact hret u _ _ _ _ hd hP hD hS
  have w135 : ∀ (t_mem : Nat → Int32) (t_faultKind : Int32) (t_faultPlace : Int32) (t_at : Int32) (t_begin : Int32) (t_token : Int32) (t_value : Int32) (t_bad : Int32) (t_nameAt : Nat → Int32) (t_nameLong : Nat → Int32) (v2 : Int32) (v3 : Int32) (z1 : Int32) (H : Heap) (locs : List Loc), va_P g.2.1 vwCl [((a_t 0), .inr (7, [.ref (a_t 1), .ref (a_t 2), .int t_acted, .ref (a_t 4), .ref (a_t 5), .ref (a_t 6), .ref (a_t 7), .ref (a_t 8), .ref (a_t 9), .int t_taped, .int t_faultKind, .int t_faultPlace, .int t_at, .int t_begin, .int t_token, .int t_value, .int t_bad, .ref (a_t 18), .ref (a_t 19), .ref (a_t 20), .int t_wide, .int t_lost, .ref (a_t 23), .long t_det, .ref (a_t 25), .int t_mask, .int t_mode, .int t_wanted, .int t_orders, .int t_foundAt, .long t_foundBy, .ref (a_t 32), .ref (a_t 33), .int t_unlikes, .ref (a_t 35), .ref (a_t 36)])), ((a_t 1), .inl (g.2.2.1 0, 27, .inl t_mem)), ((a_t 9), .inl (g.2.2.1 0, 600, .inl t_tape)), ((a_t 18), .inl (g.2.2.1 0, 3, .inl t_nameAt)), ((a_t 19), .inl (g.2.2.1 0, 3, .inl t_nameLong))] H → va_D A [((a_t 0), .inr (7, [.ref (a_t 1), .ref (a_t 2), .int t_acted, .ref (a_t 4), .ref (a_t 5), .ref (a_t 6), .ref (a_t 7), .ref (a_t 8), .ref (a_t 9), .int t_taped, .int t_faultKind, .int t_faultPlace, .int t_at, .int t_begin, .int t_token, .int t_value, .int t_bad, .ref (a_t 18), .ref (a_t 19), .ref (a_t 20), .int t_wide, .int t_lost, .ref (a_t 23), .long t_det, .ref (a_t 25), .int t_mask, .int t_mode, .int t_wanted, .int t_orders, .int t_foundAt, .long t_foundBy, .ref (a_t 32), .ref (a_t 33), .int t_unlikes, .ref (a_t 35), .ref (a_t 36)])), ((a_t 1), .inl (g.2.2.1 0, 27, .inl t_mem)), ((a_t 9), .inl (g.2.2.1 0, 600, .inl t_tape)), ((a_t 18), .inl (g.2.2.1 0, 3, .inl t_nameAt)), ((a_t 19), .inl (g.2.2.1 0, 3, .inl t_nameLong))] → va_S A s.heap H locs → ∀ (ls : Array Slot), lv_has ls 10 [(0, .ref ((a_t 0))), (2, .int v2), (3, .int v3)] → fX8_readsKind_135  t_mem t_tape t_taped t_faultKind t_faultPlace t_at t_begin t_token t_value t_bad t_nameAt t_nameLong v2 v3 z1 = some (o_t_mem, o_t_faultKind, o_t_faultPlace, o_t_at, o_t_begin, o_t_token, o_t_value, o_t_bad, o_t_nameAt, o_t_nameLong) → W p l e ⟨10, 0, 0, 196⟩ s m args below meth c H locs 0 0 Q (F0 m 135 ls [.int z1, .ref ((a_t 0))]) := by
    intro t_mem t_faultKind t_faultPlace t_at t_begin t_token t_value t_bad t_nameAt t_nameLong v2 v3 z1 H locs hP hD hS ls hl h
    unfold fX8_readsKind_135 at h
    have hG := hGk hS
    obtain ⟨w43, w44, w45, w46, w47, w48, w49, hr42, h⟩ := ob7_out h
    refine rw_v (WN := fun u50 => [((a_t 1), .inl (g.2.2.1 0, 27, .inl t_mem)), ((a_t 18), .inl (g.2.2.1 0, 3, .inl t_nameAt)), ((a_t 19), .inl (g.2.2.1 0, 3, .inl t_nameLong)), ((a_t 0), .inr (7, [.ref (a_t 1), .ref (a_t 2), .int t_acted, .ref (a_t 4), .ref (a_t 5), .ref (a_t 6), .ref (a_t 7), .ref (a_t 8), .ref (a_t 9), .int t_taped, .int w43, .int w44, .int w45, .int w46, .int w47, .int w48, .int w49, .ref (a_t 18), .ref (a_t 19), .ref (a_t 20), .int t_wide, .int t_lost, .ref (a_t 23), .long t_det, .ref (a_t 25), .int t_mask, .int t_mode, .int t_wanted, .int t_orders, .int t_foundAt, .long t_foundBy, .ref (a_t 32), .ref (a_t 33), .int t_unlikes, .ref (a_t 35), .ref (a_t 36)])), ((a_t 9), .inl (g.2.2.1 0, 600, .inl t_tape))]) (wr := [((a_t 1), .inl (g.2.2.1 0, 27, .inl t_mem)), ((a_t 18), .inl (g.2.2.1 0, 3, .inl t_nameAt)), ((a_t 19), .inl (g.2.2.1 0, 3, .inl t_nameLong))]) (runV (As := [.int z1]) (rest := []) cx hl.1 (ctX8_passes l g H.size a_t t_acted t_taped t_faultKind t_faultPlace t_at t_begin t_token t_value t_bad t_wide t_lost t_det t_mask t_mode t_wanted t_orders t_foundAt t_foundBy t_unlikes t_tape z1 w43 w44 w45 w46 w47 w48 w49 hr42) kmX8_passes kvX8_passes lm_X8_132 ⟨rfl, rfl⟩ ⟨Nat.le_of_ble_eq_true rfl, Nat.le_of_ble_eq_true rfl⟩ (rwV (q0 := 0) (ci := 7) hG (hP.sub [0, 2] rfl) (hD.sub [0, 2] (by decide) rfl) hAb hb0 hS hP rfl rfl) rfl rfl (Nat.le_of_ble_eq_true rfl) dX8_readsKind_135 ⟨Nat.le_of_ble_eq_true rfl, Nat.le_of_ble_eq_true rfl⟩) hP hD hS hA [0, 2] [1, 3, 4] rfl rfl (by decide) (by decide) (fun _ => rfl) (fun u50 H locs hP hD hS => ?_)
    have hG := hGk hS
    refine lv_iconst (v := 4) hx hb dX8_readsKind_138 (by decide) ?_
    refine lv_iconst (v := 5) hx hb dX8_readsKind_139 (by decide) ?_
    refine lv_aload_n hx hb dX8_readsKind_140 rfl (lv_at hl 0 rfl) ?_
    refine xa_get (C := RX8) (T := TX8) (N := 36) cx hG hP 3 rfl rfl uX8 0 (by decide) lf_X8_21 rfl dX8_readsKind_141 ?_
    refine lv_iconst (v := 1) hx hb dX8_readsKind_144 (by decide) ?_
    refine xa_iald (k := 1) cx hG hP 0 rfl (show ¬ ((1 : Int32) < 0 ∨ 27 ≤ (1 : Int32).toNatClampNeg) by decide) (by decide) dX8_readsKind_145 ?_
    refine lv_imul hx hb dX8_readsKind_146 ?_
    refine lv_iadd hx hb dX8_readsKind_147 ?_
    refine lv_istore (lv' := [(4, .int (4 + (5 * (t_mem 1)))), (0, .ref ((a_t 0))), (2, .int v2), (3, .int v3)]) hx hb dX8_readsKind_148 hl (by decide) rfl (fun ls hl => ?_)
    refine lv_aload_n hx hb dX8_readsKind_150 rfl (lv_at hl 1 rfl) ?_
    refine va_ldcS (own := RX8) (tx := "one") (q := g.2.2.2.2.1 4) hx hb cx.2.2.2.1 (GE_st hG sr_17) dX8_readsKind_151 ?_
    refine lv_iconst (v := 1) hx hb dX8_readsKind_153 (by decide) ?_
    refine lv_bipush (v := 99) hx hb dX8_readsKind_154 (by decide) ?_
    obtain ⟨r52, w53, w54, w55, w56, w57, w58, w59, hr51, h⟩ := ob8_out h
    refine rw_i (WN := fun u60 => [((a_t 1), .inl (g.2.2.1 0, 27, .inl t_mem)), ((a_t 18), .inl (g.2.2.1 0, 3, .inl t_nameAt)), ((a_t 19), .inl (g.2.2.1 0, 3, .inl t_nameLong)), ((a_t 0), .inr (7, [.ref (a_t 1), .ref (a_t 2), .int t_acted, .ref (a_t 4), .ref (a_t 5), .ref (a_t 6), .ref (a_t 7), .ref (a_t 8), .ref (a_t 9), .int t_taped, .int w53, .int w54, .int w55, .int w56, .int w57, .int w58, .int w59, .ref (a_t 18), .ref (a_t 19), .ref (a_t 20), .int t_wide, .int t_lost, .ref (a_t 23), .long t_det, .ref (a_t 25), .int t_mask, .int t_mode, .int t_wanted, .int t_orders, .int t_foundAt, .long t_foundBy, .ref (a_t 32), .ref (a_t 33), .int t_unlikes, .ref (a_t 35), .ref (a_t 36)])), ((a_t 9), .inl (g.2.2.1 0, 600, .inl t_tape))]) (wr := [((a_t 1), .inl (g.2.2.1 0, 27, .inl t_mem)), ((a_t 18), .inl (g.2.2.1 0, 3, .inl t_nameAt)), ((a_t 19), .inl (g.2.2.1 0, 3, .inl t_nameLong))]) (runV (As := [.ref ((g.2.2.2.2.1 4)), .int (1), .int (99)]) (rest := []) cx hl.1 (ctX8_readsNamed l g H.size a_t t_acted t_taped w43 w44 w45 w46 w47 w48 w49 t_wide t_lost t_det t_mask t_mode t_wanted t_orders t_foundAt t_foundBy t_unlikes t_tape 4 (by decide) (1) (99) r52 w53 w54 w55 w56 w57 w58 w59 hr51) kmX8_readsNamed kvX8_readsNamed lm_X8_147 ⟨rfl, rfl⟩ ⟨Nat.le_of_ble_eq_true rfl, Nat.le_of_ble_eq_true rfl⟩ (rwV (q0 := 3) (ci := 7) hG (hP.sub [3, 4] rfl) (hD.sub [3, 4] (by decide) rfl) hAb hb0 hS hP rfl rfl) rfl rfl (Nat.le_of_ble_eq_true rfl) dX8_readsKind_156 ⟨Nat.le_of_ble_eq_true rfl, Nat.le_of_ble_eq_true rfl⟩) hP hD hS hA [3, 4] [0, 1, 2] rfl rfl (by decide) (by decide) (fun _ => rfl) (fun u60 H locs hP hD hS => ?_)
    have hG := hGk hS
    refine lv_istore (lv' := [(5, .int r52), (4, .int (4 + (5 * (t_mem 1)))), (0, .ref ((a_t 0))), (2, .int v2), (3, .int v3)]) hx hb dX8_readsKind_159 hl (by decide) rfl (fun ls hl => ?_)
    refine lv_aload_n hx hb dX8_readsKind_161 rfl (lv_at hl 2 rfl) ?_
    refine va_ldcS (own := RX8) (tx := "two") (q := g.2.2.2.2.1 5) hx hb cx.2.2.2.1 (GE_st hG sr_18) dX8_readsKind_162 ?_
    refine lv_iconst (v := 0) hx hb dX8_readsKind_164 (by decide) ?_
    refine lv_bipush (v := 99) hx hb dX8_readsKind_165 (by decide) ?_
    obtain ⟨r62, w63, w64, w65, w66, w67, w68, w69, hr61, h⟩ := ob8_out h
    refine rw_i (WN := fun u70 => [((a_t 1), .inl (g.2.2.1 0, 27, .inl t_mem)), ((a_t 18), .inl (g.2.2.1 0, 3, .inl t_nameAt)), ((a_t 19), .inl (g.2.2.1 0, 3, .inl t_nameLong)), ((a_t 0), .inr (7, [.ref (a_t 1), .ref (a_t 2), .int t_acted, .ref (a_t 4), .ref (a_t 5), .ref (a_t 6), .ref (a_t 7), .ref (a_t 8), .ref (a_t 9), .int t_taped, .int w63, .int w64, .int w65, .int w66, .int w67, .int w68, .int w69, .ref (a_t 18), .ref (a_t 19), .ref (a_t 20), .int t_wide, .int t_lost, .ref (a_t 23), .long t_det, .ref (a_t 25), .int t_mask, .int t_mode, .int t_wanted, .int t_orders, .int t_foundAt, .long t_foundBy, .ref (a_t 32), .ref (a_t 33), .int t_unlikes, .ref (a_t 35), .ref (a_t 36)])), ((a_t 9), .inl (g.2.2.1 0, 600, .inl t_tape))]) (wr := [((a_t 1), .inl (g.2.2.1 0, 27, .inl t_mem)), ((a_t 18), .inl (g.2.2.1 0, 3, .inl t_nameAt)), ((a_t 19), .inl (g.2.2.1 0, 3, .inl t_nameLong))]) (runV (As := [.ref ((g.2.2.2.2.1 5)), .int (0), .int (99)]) (rest := []) cx hl.1 (ctX8_readsNamed l g H.size a_t t_acted t_taped w53 w54 w55 w56 w57 w58 w59 t_wide t_lost t_det t_mask t_mode t_wanted t_orders t_foundAt t_foundBy t_unlikes t_tape 5 (by decide) (0) (99) r62 w63 w64 w65 w66 w67 w68 w69 hr61) kmX8_readsNamed kvX8_readsNamed lm_X8_147 ⟨rfl, rfl⟩ ⟨Nat.le_of_ble_eq_true rfl, Nat.le_of_ble_eq_true rfl⟩ (rwV (q0 := 3) (ci := 7) hG (hP.sub [3, 4] rfl) (hD.sub [3, 4] (by decide) rfl) hAb hb0 hS hP rfl rfl) rfl rfl (Nat.le_of_ble_eq_true rfl) dX8_readsKind_167 ⟨Nat.le_of_ble_eq_true rfl, Nat.le_of_ble_eq_true rfl⟩) hP hD hS hA [3, 4] [0, 1, 2] rfl rfl (by decide) (by decide) (fun _ => rfl) (fun u70 H locs hP hD hS => ?_)
    have hG := hGk hS
    refine lv_istore (lv' := [(6, .int r62), (5, .int r52), (4, .int (4 + (5 * (t_mem 1)))), (0, .ref ((a_t 0))), (2, .int v2), (3, .int v3)]) hx hb dX8_readsKind_170 hl (by decide) rfl (fun ls hl => ?_)
    refine lv_aload_n hx hb dX8_readsKind_172 rfl (lv_at hl 3 rfl) ?_
    refine va_ldcS (own := RX8) (tx := "three") (q := g.2.2.2.2.1 6) hx hb cx.2.2.2.1 (GE_st hG sr_19) dX8_readsKind_173 ?_
    refine lv_iconst (v := 0) hx hb dX8_readsKind_175 (by decide) ?_
    refine lv_bipush (v := 99) hx hb dX8_readsKind_176 (by decide) ?_
    obtain ⟨r72, w73, w74, w75, w76, w77, w78, w79, hr71, h⟩ := ob8_out h
    refine rw_i (WN := fun u80 => [((a_t 1), .inl (g.2.2.1 0, 27, .inl t_mem)), ((a_t 18), .inl (g.2.2.1 0, 3, .inl t_nameAt)), ((a_t 19), .inl (g.2.2.1 0, 3, .inl t_nameLong)), ((a_t 0), .inr (7, [.ref (a_t 1), .ref (a_t 2), .int t_acted, .ref (a_t 4), .ref (a_t 5), .ref (a_t 6), .ref (a_t 7), .ref (a_t 8), .ref (a_t 9), .int t_taped, .int w73, .int w74, .int w75, .int w76, .int w77, .int w78, .int w79, .ref (a_t 18), .ref (a_t 19), .ref (a_t 20), .int t_wide, .int t_lost, .ref (a_t 23), .long t_det, .ref (a_t 25), .int t_mask, .int t_mode, .int t_wanted, .int t_orders, .int t_foundAt, .long t_foundBy, .ref (a_t 32), .ref (a_t 33), .int t_unlikes, .ref (a_t 35), .ref (a_t 36)])), ((a_t 9), .inl (g.2.2.1 0, 600, .inl t_tape))]) (wr := [((a_t 1), .inl (g.2.2.1 0, 27, .inl t_mem)), ((a_t 18), .inl (g.2.2.1 0, 3, .inl t_nameAt)), ((a_t 19), .inl (g.2.2.1 0, 3, .inl t_nameLong))]) (runV (As := [.ref ((g.2.2.2.2.1 6)), .int (0), .int (99)]) (rest := []) cx hl.1 (ctX8_readsNamed l g H.size a_t t_acted t_taped w63 w64 w65 w66 w67 w68 w69 t_wide t_lost t_det t_mask t_mode t_wanted t_orders t_foundAt t_foundBy t_unlikes t_tape 6 (by decide) (0) (99) r72 w73 w74 w75 w76 w77 w78 w79 hr71) kmX8_readsNamed kvX8_readsNamed lm_X8_147 ⟨rfl, rfl⟩ ⟨Nat.le_of_ble_eq_true rfl, Nat.le_of_ble_eq_true rfl⟩ (rwV (q0 := 3) (ci := 7) hG (hP.sub [3, 4] rfl) (hD.sub [3, 4] (by decide) rfl) hAb hb0 hS hP rfl rfl) rfl rfl (Nat.le_of_ble_eq_true rfl) dX8_readsKind_178 ⟨Nat.le_of_ble_eq_true rfl, Nat.le_of_ble_eq_true rfl⟩) hP hD hS hA [3, 4] [0, 1, 2] rfl rfl (by decide) (by decide) (fun _ => rfl) (fun u80 H locs hP hD hS => ?_)
    have hG := hGk hS
    refine lv_istore (lv' := [(7, .int r72), (6, .int r62), (5, .int r52), (4, .int (4 + (5 * (t_mem 1)))), (0, .ref ((a_t 0))), (2, .int v2), (3, .int v3)]) hx hb dX8_readsKind_181 hl (by decide) rfl (fun ls hl => ?_)
    refine lv_aload_n hx hb dX8_readsKind_183 rfl (lv_at hl 4 rfl) ?_
    refine va_ldcS (own := RX8) (tx := "four") (q := g.2.2.2.2.1 7) hx hb cx.2.2.2.1 (GE_st hG sr_20) dX8_readsKind_184 ?_
    refine lv_iconst (v := 0) hx hb dX8_readsKind_186 (by decide) ?_
    refine lv_bipush (v := 99) hx hb dX8_readsKind_187 (by decide) ?_
    obtain ⟨r82, w83, w84, w85, w86, w87, w88, w89, hr81, h⟩ := ob8_out h
    refine rw_i (WN := fun u90 => [((a_t 1), .inl (g.2.2.1 0, 27, .inl t_mem)), ((a_t 18), .inl (g.2.2.1 0, 3, .inl t_nameAt)), ((a_t 19), .inl (g.2.2.1 0, 3, .inl t_nameLong)), ((a_t 0), .inr (7, [.ref (a_t 1), .ref (a_t 2), .int t_acted, .ref (a_t 4), .ref (a_t 5), .ref (a_t 6), .ref (a_t 7), .ref (a_t 8), .ref (a_t 9), .int t_taped, .int w83, .int w84, .int w85, .int w86, .int w87, .int w88, .int w89, .ref (a_t 18), .ref (a_t 19), .ref (a_t 20), .int t_wide, .int t_lost, .ref (a_t 23), .long t_det, .ref (a_t 25), .int t_mask, .int t_mode, .int t_wanted, .int t_orders, .int t_foundAt, .long t_foundBy, .ref (a_t 32), .ref (a_t 33), .int t_unlikes, .ref (a_t 35), .ref (a_t 36)])), ((a_t 9), .inl (g.2.2.1 0, 600, .inl t_tape))]) (wr := [((a_t 1), .inl (g.2.2.1 0, 27, .inl t_mem)), ((a_t 18), .inl (g.2.2.1 0, 3, .inl t_nameAt)), ((a_t 19), .inl (g.2.2.1 0, 3, .inl t_nameLong))]) (runV (As := [.ref ((g.2.2.2.2.1 7)), .int (0), .int (99)]) (rest := []) cx hl.1 (ctX8_readsNamed l g H.size a_t t_acted t_taped w73 w74 w75 w76 w77 w78 w79 t_wide t_lost t_det t_mask t_mode t_wanted t_orders t_foundAt t_foundBy t_unlikes t_tape 7 (by decide) (0) (99) r82 w83 w84 w85 w86 w87 w88 w89 hr81) kmX8_readsNamed kvX8_readsNamed lm_X8_147 ⟨rfl, rfl⟩ ⟨Nat.le_of_ble_eq_true rfl, Nat.le_of_ble_eq_true rfl⟩ (rwV (q0 := 3) (ci := 7) hG (hP.sub [3, 4] rfl) (hD.sub [3, 4] (by decide) rfl) hAb hb0 hS hP rfl rfl) rfl rfl (Nat.le_of_ble_eq_true rfl) dX8_readsKind_189 ⟨Nat.le_of_ble_eq_true rfl, Nat.le_of_ble_eq_true rfl⟩) hP hD hS hA [3, 4] [0, 1, 2] rfl rfl (by decide) (by decide) (fun _ => rfl) (fun u90 H locs hP hD hS => ?_)
    have hG := hGk hS
    refine lv_istore (lv' := [(8, .int r82), (7, .int r72), (6, .int r62), (5, .int r52), (4, .int (4 + (5 * (t_mem 1)))), (0, .ref ((a_t 0))), (2, .int v2), (3, .int v3)]) hx hb dX8_readsKind_192 hl (by decide) rfl (fun ls hl => ?_)
    refine lv_aload_n hx hb dX8_readsKind_194 rfl (lv_at hl 5 rfl) ?_
    refine va_ldcS (own := RX8) (tx := "limit") (q := g.2.2.2.2.1 8) hx hb cx.2.2.2.1 (GE_st hG sr_21) dX8_readsKind_195 ?_
    refine lv_iconst (v := 1) hx hb dX8_readsKind_197 (by decide) ?_
    refine lv_sipush (v := 999) hx hb dX8_readsKind_198 (by decide) ?_
    obtain ⟨r92, w93, w94, w95, w96, w97, w98, w99, hr91, h⟩ := ob8_out h
    refine rw_i (WN := fun u100 => [((a_t 1), .inl (g.2.2.1 0, 27, .inl t_mem)), ((a_t 18), .inl (g.2.2.1 0, 3, .inl t_nameAt)), ((a_t 19), .inl (g.2.2.1 0, 3, .inl t_nameLong)), ((a_t 0), .inr (7, [.ref (a_t 1), .ref (a_t 2), .int t_acted, .ref (a_t 4), .ref (a_t 5), .ref (a_t 6), .ref (a_t 7), .ref (a_t 8), .ref (a_t 9), .int t_taped, .int w93, .int w94, .int w95, .int w96, .int w97, .int w98, .int w99, .ref (a_t 18), .ref (a_t 19), .ref (a_t 20), .int t_wide, .int t_lost, .ref (a_t 23), .long t_det, .ref (a_t 25), .int t_mask, .int t_mode, .int t_wanted, .int t_orders, .int t_foundAt, .long t_foundBy, .ref (a_t 32), .ref (a_t 33), .int t_unlikes, .ref (a_t 35), .ref (a_t 36)])), ((a_t 9), .inl (g.2.2.1 0, 600, .inl t_tape))]) (wr := [((a_t 1), .inl (g.2.2.1 0, 27, .inl t_mem)), ((a_t 18), .inl (g.2.2.1 0, 3, .inl t_nameAt)), ((a_t 19), .inl (g.2.2.1 0, 3, .inl t_nameLong))]) (runV (As := [.ref ((g.2.2.2.2.1 8)), .int (1), .int (999)]) (rest := []) cx hl.1 (ctX8_readsNamed l g H.size a_t t_acted t_taped w83 w84 w85 w86 w87 w88 w89 t_wide t_lost t_det t_mask t_mode t_wanted t_orders t_foundAt t_foundBy t_unlikes t_tape 8 (by decide) (1) (999) r92 w93 w94 w95 w96 w97 w98 w99 hr91) kmX8_readsNamed kvX8_readsNamed lm_X8_147 ⟨rfl, rfl⟩ ⟨Nat.le_of_ble_eq_true rfl, Nat.le_of_ble_eq_true rfl⟩ (rwV (q0 := 3) (ci := 7) hG (hP.sub [3, 4] rfl) (hD.sub [3, 4] (by decide) rfl) hAb hb0 hS hP rfl rfl) rfl rfl (Nat.le_of_ble_eq_true rfl) dX8_readsKind_201 ⟨Nat.le_of_ble_eq_true rfl, Nat.le_of_ble_eq_true rfl⟩) hP hD hS hA [3, 4] [0, 1, 2] rfl rfl (by decide) (by decide) (fun _ => rfl) (fun u100 H locs hP hD hS => ?_)
    have hG := hGk hS
    refine lv_istore (lv' := [(9, .int r92), (8, .int r82), (7, .int r72), (6, .int r62), (5, .int r52), (4, .int (4 + (5 * (t_mem 1)))), (0, .ref ((a_t 0))), (2, .int v2), (3, .int v3)]) hx hb dX8_readsKind_204 hl (by decide) rfl (fun ls hl => ?_)
    refine lv_aload_n hx hb dX8_readsKind_206 rfl (lv_at hl 6 rfl) ?_
    refine xa_get (C := RX8) (T := TX8) (N := 36) cx hG hP 3 rfl rfl uX8 16 (by decide) lf_X8_108 rfl dX8_readsKind_207 ?_
    refine lv_if_eq (tgt := 214) hx hb dX8_readsKind_210 (by decide) (fun c101 => ?_) (fun c101 => ?_)
    · have h := itp c101 h
      refine lv_aload_n hx hb dX8_readsKind_214 rfl (lv_at hl 6 rfl) ?_
      refine xa_get (C := RX8) (T := TX8) (N := 36) cx hG hP 3 rfl rfl uX8 0 (by decide) lf_X8_21 rfl dX8_readsKind_215 ?_
      refine lv_iload hx hb dX8_readsKind_218 (lv_at hl 5 rfl) ?_
      refine lv_iload hx hb dX8_readsKind_220 (lv_at hl 4 rfl) ?_
      obtain ⟨hi102, h⟩ := chk_out h
      refine xw_iast (ws' := [((a_t 1), .inl (g.2.2.1 0, 27, .inl (upd t_mem ((4 + (5 * (t_mem 1))).toNatClampNeg) r52))), ((a_t 18), .inl (g.2.2.1 0, 3, .inl t_nameAt)), ((a_t 19), .inl (g.2.2.1 0, 3, .inl t_nameLong)), ((a_t 0), .inr (7, [.ref (a_t 1), .ref (a_t 2), .int t_acted, .ref (a_t 4), .ref (a_t 5), .ref (a_t 6), .ref (a_t 7), .ref (a_t 8), .ref (a_t 9), .int t_taped, .int w93, .int w94, .int w95, .int w96, .int w97, .int w98, .int w99, .ref (a_t 18), .ref (a_t 19), .ref (a_t 20), .int t_wide, .int t_lost, .ref (a_t 23), .long t_det, .ref (a_t 25), .int t_mask, .int t_mode, .int t_wanted, .int t_orders, .int t_foundAt, .long t_foundBy, .ref (a_t 32), .ref (a_t 33), .int t_unlikes, .ref (a_t 35), .ref (a_t 36)])), ((a_t 9), .inl (g.2.2.1 0, 600, .inl t_tape))]) (k := ((4 + (5 * (t_mem 1))).toNatClampNeg)) cx hG hP hD hS 0 rfl hi102 rfl rfl dX8_readsKind_222 (fun H locs hP hD hS => ?_)
      have hG := hGk hS
      refine lv_aload_n hx hb dX8_readsKind_223 rfl (lv_at hl 6 rfl) ?_
      refine xa_get (C := RX8) (T := TX8) (N := 36) cx hG hP 3 rfl rfl uX8 0 (by decide) lf_X8_21 rfl dX8_readsKind_224 ?_
      refine lv_iload hx hb dX8_readsKind_227 (lv_at hl 5 rfl) ?_
      refine lv_iconst (v := 1) hx hb dX8_readsKind_229 (by decide) ?_
      refine lv_iadd hx hb dX8_readsKind_230 ?_
      refine lv_iload hx hb dX8_readsKind_231 (lv_at hl 3 rfl) ?_
      obtain ⟨hi103, h⟩ := chk_out h
      refine xw_iast (ws' := [((a_t 1), .inl (g.2.2.1 0, 27, .inl (upd (upd t_mem ((4 + (5 * (t_mem 1))).toNatClampNeg) r52) (((4 + (5 * (t_mem 1))) + 1).toNatClampNeg) r62))), ((a_t 18), .inl (g.2.2.1 0, 3, .inl t_nameAt)), ((a_t 19), .inl (g.2.2.1 0, 3, .inl t_nameLong)), ((a_t 0), .inr (7, [.ref (a_t 1), .ref (a_t 2), .int t_acted, .ref (a_t 4), .ref (a_t 5), .ref (a_t 6), .ref (a_t 7), .ref (a_t 8), .ref (a_t 9), .int t_taped, .int w93, .int w94, .int w95, .int w96, .int w97, .int w98, .int w99, .ref (a_t 18), .ref (a_t 19), .ref (a_t 20), .int t_wide, .int t_lost, .ref (a_t 23), .long t_det, .ref (a_t 25), .int t_mask, .int t_mode, .int t_wanted, .int t_orders, .int t_foundAt, .long t_foundBy, .ref (a_t 32), .ref (a_t 33), .int t_unlikes, .ref (a_t 35), .ref (a_t 36)])), ((a_t 9), .inl (g.2.2.1 0, 600, .inl t_tape))]) (k := (((4 + (5 * (t_mem 1))) + 1).toNatClampNeg)) cx hG hP hD hS 0 rfl hi103 rfl rfl dX8_readsKind_233 (fun H locs hP hD hS => ?_)
      have hG := hGk hS
      refine lv_aload_n hx hb dX8_readsKind_234 rfl (lv_at hl 6 rfl) ?_
      refine xa_get (C := RX8) (T := TX8) (N := 36) cx hG hP 3 rfl rfl uX8 0 (by decide) lf_X8_21 rfl dX8_readsKind_235 ?_
      refine lv_iload hx hb dX8_readsKind_238 (lv_at hl 5 rfl) ?_
      refine lv_iconst (v := 2) hx hb dX8_readsKind_240 (by decide) ?_
      refine lv_iadd hx hb dX8_readsKind_241 ?_
      refine lv_iload hx hb dX8_readsKind_242 (lv_at hl 2 rfl) ?_
      obtain ⟨hi104, h⟩ := chk_out h
      refine xw_iast (ws' := [((a_t 1), .inl (g.2.2.1 0, 27, .inl (upd (upd (upd t_mem ((4 + (5 * (t_mem 1))).toNatClampNeg) r52) (((4 + (5 * (t_mem 1))) + 1).toNatClampNeg) r62) (((4 + (5 * (t_mem 1))) + 2).toNatClampNeg) r72))), ((a_t 18), .inl (g.2.2.1 0, 3, .inl t_nameAt)), ((a_t 19), .inl (g.2.2.1 0, 3, .inl t_nameLong)), ((a_t 0), .inr (7, [.ref (a_t 1), .ref (a_t 2), .int t_acted, .ref (a_t 4), .ref (a_t 5), .ref (a_t 6), .ref (a_t 7), .ref (a_t 8), .ref (a_t 9), .int t_taped, .int w93, .int w94, .int w95, .int w96, .int w97, .int w98, .int w99, .ref (a_t 18), .ref (a_t 19), .ref (a_t 20), .int t_wide, .int t_lost, .ref (a_t 23), .long t_det, .ref (a_t 25), .int t_mask, .int t_mode, .int t_wanted, .int t_orders, .int t_foundAt, .long t_foundBy, .ref (a_t 32), .ref (a_t 33), .int t_unlikes, .ref (a_t 35), .ref (a_t 36)])), ((a_t 9), .inl (g.2.2.1 0, 600, .inl t_tape))]) (k := (((4 + (5 * (t_mem 1))) + 2).toNatClampNeg)) cx hG hP hD hS 0 rfl hi104 rfl rfl dX8_readsKind_244 (fun H locs hP hD hS => ?_)
      have hG := hGk hS
      refine lv_aload_n hx hb dX8_readsKind_245 rfl (lv_at hl 6 rfl) ?_
      refine xa_get (C := RX8) (T := TX8) (N := 36) cx hG hP 3 rfl rfl uX8 0 (by decide) lf_X8_21 rfl dX8_readsKind_246 ?_
      refine lv_iload hx hb dX8_readsKind_249 (lv_at hl 5 rfl) ?_
      refine lv_iconst (v := 3) hx hb dX8_readsKind_251 (by decide) ?_
      refine lv_iadd hx hb dX8_readsKind_252 ?_
      refine lv_iload hx hb dX8_readsKind_253 (lv_at hl 1 rfl) ?_
      obtain ⟨hi105, h⟩ := chk_out h
      refine xw_iast (ws' := [((a_t 1), .inl (g.2.2.1 0, 27, .inl (upd (upd (upd (upd t_mem ((4 + (5 * (t_mem 1))).toNatClampNeg) r52) (((4 + (5 * (t_mem 1))) + 1).toNatClampNeg) r62) (((4 + (5 * (t_mem 1))) + 2).toNatClampNeg) r72) (((4 + (5 * (t_mem 1))) + 3).toNatClampNeg) r82))), ((a_t 18), .inl (g.2.2.1 0, 3, .inl t_nameAt)), ((a_t 19), .inl (g.2.2.1 0, 3, .inl t_nameLong)), ((a_t 0), .inr (7, [.ref (a_t 1), .ref (a_t 2), .int t_acted, .ref (a_t 4), .ref (a_t 5), .ref (a_t 6), .ref (a_t 7), .ref (a_t 8), .ref (a_t 9), .int t_taped, .int w93, .int w94, .int w95, .int w96, .int w97, .int w98, .int w99, .ref (a_t 18), .ref (a_t 19), .ref (a_t 20), .int t_wide, .int t_lost, .ref (a_t 23), .long t_det, .ref (a_t 25), .int t_mask, .int t_mode, .int t_wanted, .int t_orders, .int t_foundAt, .long t_foundBy, .ref (a_t 32), .ref (a_t 33), .int t_unlikes, .ref (a_t 35), .ref (a_t 36)])), ((a_t 9), .inl (g.2.2.1 0, 600, .inl t_tape))]) (k := (((4 + (5 * (t_mem 1))) + 3).toNatClampNeg)) cx hG hP hD hS 0 rfl hi105 rfl rfl dX8_readsKind_255 (fun H locs hP hD hS => ?_)
      have hG := hGk hS
      refine lv_aload_n hx hb dX8_readsKind_256 rfl (lv_at hl 6 rfl) ?_
      refine xa_get (C := RX8) (T := TX8) (N := 36) cx hG hP 3 rfl rfl uX8 0 (by decide) lf_X8_21 rfl dX8_readsKind_257 ?_
      refine lv_iload hx hb dX8_readsKind_260 (lv_at hl 5 rfl) ?_
      refine lv_iconst (v := 4) hx hb dX8_readsKind_262 (by decide) ?_
      refine lv_iadd hx hb dX8_readsKind_263 ?_
      refine lv_iload hx hb dX8_readsKind_264 (lv_at hl 0 rfl) ?_
      obtain ⟨hi106, h⟩ := chk_out h
      refine xw_iast (ws' := [((a_t 1), .inl (g.2.2.1 0, 27, .inl (upd (upd (upd (upd (upd t_mem ((4 + (5 * (t_mem 1))).toNatClampNeg) r52) (((4 + (5 * (t_mem 1))) + 1).toNatClampNeg) r62) (((4 + (5 * (t_mem 1))) + 2).toNatClampNeg) r72) (((4 + (5 * (t_mem 1))) + 3).toNatClampNeg) r82) (((4 + (5 * (t_mem 1))) + 4).toNatClampNeg) r92))), ((a_t 18), .inl (g.2.2.1 0, 3, .inl t_nameAt)), ((a_t 19), .inl (g.2.2.1 0, 3, .inl t_nameLong)), ((a_t 0), .inr (7, [.ref (a_t 1), .ref (a_t 2), .int t_acted, .ref (a_t 4), .ref (a_t 5), .ref (a_t 6), .ref (a_t 7), .ref (a_t 8), .ref (a_t 9), .int t_taped, .int w93, .int w94, .int w95, .int w96, .int w97, .int w98, .int w99, .ref (a_t 18), .ref (a_t 19), .ref (a_t 20), .int t_wide, .int t_lost, .ref (a_t 23), .long t_det, .ref (a_t 25), .int t_mask, .int t_mode, .int t_wanted, .int t_orders, .int t_foundAt, .long t_foundBy, .ref (a_t 32), .ref (a_t 33), .int t_unlikes, .ref (a_t 35), .ref (a_t 36)])), ((a_t 9), .inl (g.2.2.1 0, 600, .inl t_tape))]) (k := (((4 + (5 * (t_mem 1))) + 4).toNatClampNeg)) cx hG hP hD hS 0 rfl hi106 rfl rfl dX8_readsKind_266 (fun H locs hP hD hS => ?_)
      have hG := hGk hS
      refine lv_aload_n hx hb dX8_readsKind_267 rfl (lv_at hl 6 rfl) ?_
      refine xa_get (C := RX8) (T := TX8) (N := 36) cx hG hP 3 rfl rfl uX8 17 (by decide) lf_X8_51 rfl dX8_readsKind_268 ?_
      refine lv_aload_n hx hb dX8_readsKind_271 rfl (lv_at hl 6 rfl) ?_
      refine xa_get (C := RX8) (T := TX8) (N := 36) cx hG hP 3 rfl rfl uX8 0 (by decide) lf_X8_21 rfl dX8_readsKind_272 ?_
      refine lv_iconst (v := 1) hx hb dX8_readsKind_275 (by decide) ?_
      refine xa_iald (k := 1) cx hG hP 0 rfl (show ¬ ((1 : Int32) < 0 ∨ 27 ≤ (1 : Int32).toNatClampNeg) by decide) (by decide) dX8_readsKind_276 ?_
      refine lv_iload_n hx hb dX8_readsKind_277 rfl (lv_at hl 7 rfl) ?_
      obtain ⟨hi107, h⟩ := chk_out h
      refine xw_iast (ws' := [((a_t 1), .inl (g.2.2.1 0, 27, .inl (upd (upd (upd (upd (upd t_mem ((4 + (5 * (t_mem 1))).toNatClampNeg) r52) (((4 + (5 * (t_mem 1))) + 1).toNatClampNeg) r62) (((4 + (5 * (t_mem 1))) + 2).toNatClampNeg) r72) (((4 + (5 * (t_mem 1))) + 3).toNatClampNeg) r82) (((4 + (5 * (t_mem 1))) + 4).toNatClampNeg) r92))), ((a_t 18), .inl (g.2.2.1 0, 3, .inl (upd t_nameAt (((upd (upd (upd (upd (upd t_mem ((4 + (5 * (t_mem 1))).toNatClampNeg) r52) (((4 + (5 * (t_mem 1))) + 1).toNatClampNeg) r62) (((4 + (5 * (t_mem 1))) + 2).toNatClampNeg) r72) (((4 + (5 * (t_mem 1))) + 3).toNatClampNeg) r82) (((4 + (5 * (t_mem 1))) + 4).toNatClampNeg) r92) 1).toNatClampNeg) v2))), ((a_t 19), .inl (g.2.2.1 0, 3, .inl t_nameLong)), ((a_t 0), .inr (7, [.ref (a_t 1), .ref (a_t 2), .int t_acted, .ref (a_t 4), .ref (a_t 5), .ref (a_t 6), .ref (a_t 7), .ref (a_t 8), .ref (a_t 9), .int t_taped, .int w93, .int w94, .int w95, .int w96, .int w97, .int w98, .int w99, .ref (a_t 18), .ref (a_t 19), .ref (a_t 20), .int t_wide, .int t_lost, .ref (a_t 23), .long t_det, .ref (a_t 25), .int t_mask, .int t_mode, .int t_wanted, .int t_orders, .int t_foundAt, .long t_foundBy, .ref (a_t 32), .ref (a_t 33), .int t_unlikes, .ref (a_t 35), .ref (a_t 36)])), ((a_t 9), .inl (g.2.2.1 0, 600, .inl t_tape))]) (k := (((upd (upd (upd (upd (upd t_mem ((4 + (5 * (t_mem 1))).toNatClampNeg) r52) (((4 + (5 * (t_mem 1))) + 1).toNatClampNeg) r62) (((4 + (5 * (t_mem 1))) + 2).toNatClampNeg) r72) (((4 + (5 * (t_mem 1))) + 3).toNatClampNeg) r82) (((4 + (5 * (t_mem 1))) + 4).toNatClampNeg) r92) 1).toNatClampNeg)) cx hG hP hD hS 1 rfl hi107 rfl rfl dX8_readsKind_278 (fun H locs hP hD hS => ?_)
      have hG := hGk hS
      refine lv_aload_n hx hb dX8_readsKind_279 rfl (lv_at hl 6 rfl) ?_
      refine xa_get (C := RX8) (T := TX8) (N := 36) cx hG hP 3 rfl rfl uX8 18 (by decide) lf_X8_54 rfl dX8_readsKind_280 ?_
      refine lv_aload_n hx hb dX8_readsKind_283 rfl (lv_at hl 6 rfl) ?_
      refine xa_get (C := RX8) (T := TX8) (N := 36) cx hG hP 3 rfl rfl uX8 0 (by decide) lf_X8_21 rfl dX8_readsKind_284 ?_
      refine lv_iconst (v := 1) hx hb dX8_readsKind_287 (by decide) ?_
      refine xa_iald (k := 1) cx hG hP 0 rfl (show ¬ ((1 : Int32) < 0 ∨ 27 ≤ (1 : Int32).toNatClampNeg) by decide) (by decide) dX8_readsKind_288 ?_
      refine lv_iload_n hx hb dX8_readsKind_289 rfl (lv_at hl 8 rfl) ?_
      obtain ⟨hi108, h⟩ := chk_out h
      refine xw_iast (ws' := [((a_t 1), .inl (g.2.2.1 0, 27, .inl (upd (upd (upd (upd (upd t_mem ((4 + (5 * (t_mem 1))).toNatClampNeg) r52) (((4 + (5 * (t_mem 1))) + 1).toNatClampNeg) r62) (((4 + (5 * (t_mem 1))) + 2).toNatClampNeg) r72) (((4 + (5 * (t_mem 1))) + 3).toNatClampNeg) r82) (((4 + (5 * (t_mem 1))) + 4).toNatClampNeg) r92))), ((a_t 18), .inl (g.2.2.1 0, 3, .inl (upd t_nameAt (((upd (upd (upd (upd (upd t_mem ((4 + (5 * (t_mem 1))).toNatClampNeg) r52) (((4 + (5 * (t_mem 1))) + 1).toNatClampNeg) r62) (((4 + (5 * (t_mem 1))) + 2).toNatClampNeg) r72) (((4 + (5 * (t_mem 1))) + 3).toNatClampNeg) r82) (((4 + (5 * (t_mem 1))) + 4).toNatClampNeg) r92) 1).toNatClampNeg) v2))), ((a_t 19), .inl (g.2.2.1 0, 3, .inl (upd t_nameLong (((upd (upd (upd (upd (upd t_mem ((4 + (5 * (t_mem 1))).toNatClampNeg) r52) (((4 + (5 * (t_mem 1))) + 1).toNatClampNeg) r62) (((4 + (5 * (t_mem 1))) + 2).toNatClampNeg) r72) (((4 + (5 * (t_mem 1))) + 3).toNatClampNeg) r82) (((4 + (5 * (t_mem 1))) + 4).toNatClampNeg) r92) 1).toNatClampNeg) v3))), ((a_t 0), .inr (7, [.ref (a_t 1), .ref (a_t 2), .int t_acted, .ref (a_t 4), .ref (a_t 5), .ref (a_t 6), .ref (a_t 7), .ref (a_t 8), .ref (a_t 9), .int t_taped, .int w93, .int w94, .int w95, .int w96, .int w97, .int w98, .int w99, .ref (a_t 18), .ref (a_t 19), .ref (a_t 20), .int t_wide, .int t_lost, .ref (a_t 23), .long t_det, .ref (a_t 25), .int t_mask, .int t_mode, .int t_wanted, .int t_orders, .int t_foundAt, .long t_foundBy, .ref (a_t 32), .ref (a_t 33), .int t_unlikes, .ref (a_t 35), .ref (a_t 36)])), ((a_t 9), .inl (g.2.2.1 0, 600, .inl t_tape))]) (k := (((upd (upd (upd (upd (upd t_mem ((4 + (5 * (t_mem 1))).toNatClampNeg) r52) (((4 + (5 * (t_mem 1))) + 1).toNatClampNeg) r62) (((4 + (5 * (t_mem 1))) + 2).toNatClampNeg) r72) (((4 + (5 * (t_mem 1))) + 3).toNatClampNeg) r82) (((4 + (5 * (t_mem 1))) + 4).toNatClampNeg) r92) 1).toNatClampNeg)) cx hG hP hD hS 2 rfl hi108 rfl rfl dX8_readsKind_290 (fun H locs hP hD hS => ?_)
      have hG := hGk hS
      refine lv_aload_n hx hb dX8_readsKind_291 rfl (lv_at hl 6 rfl) ?_
      refine xa_get (C := RX8) (T := TX8) (N := 36) cx hG hP 3 rfl rfl uX8 0 (by decide) lf_X8_21 rfl dX8_readsKind_292 ?_
      refine lv_iconst (v := 1) hx hb dX8_readsKind_295 (by decide) ?_
      refine lv_dup2_11 hx hb dX8_readsKind_296 rfl rfl ?_
      refine xa_iald (k := 1) cx hG hP 0 rfl (show ¬ ((1 : Int32) < 0 ∨ 27 ≤ (1 : Int32).toNatClampNeg) by decide) (by decide) dX8_readsKind_297 ?_
      refine lv_iconst (v := 1) hx hb dX8_readsKind_298 (by decide) ?_
      refine lv_iadd hx hb dX8_readsKind_299 ?_
      refine xw_iast (ws' := [((a_t 1), .inl (g.2.2.1 0, 27, .inl (upd (upd (upd (upd (upd (upd t_mem ((4 + (5 * (t_mem 1))).toNatClampNeg) r52) (((4 + (5 * (t_mem 1))) + 1).toNatClampNeg) r62) (((4 + (5 * (t_mem 1))) + 2).toNatClampNeg) r72) (((4 + (5 * (t_mem 1))) + 3).toNatClampNeg) r82) (((4 + (5 * (t_mem 1))) + 4).toNatClampNeg) r92) 1 (((upd (upd (upd (upd (upd t_mem ((4 + (5 * (t_mem 1))).toNatClampNeg) r52) (((4 + (5 * (t_mem 1))) + 1).toNatClampNeg) r62) (((4 + (5 * (t_mem 1))) + 2).toNatClampNeg) r72) (((4 + (5 * (t_mem 1))) + 3).toNatClampNeg) r82) (((4 + (5 * (t_mem 1))) + 4).toNatClampNeg) r92) 1) + 1)))), ((a_t 18), .inl (g.2.2.1 0, 3, .inl (upd t_nameAt (((upd (upd (upd (upd (upd t_mem ((4 + (5 * (t_mem 1))).toNatClampNeg) r52) (((4 + (5 * (t_mem 1))) + 1).toNatClampNeg) r62) (((4 + (5 * (t_mem 1))) + 2).toNatClampNeg) r72) (((4 + (5 * (t_mem 1))) + 3).toNatClampNeg) r82) (((4 + (5 * (t_mem 1))) + 4).toNatClampNeg) r92) 1).toNatClampNeg) v2))), ((a_t 19), .inl (g.2.2.1 0, 3, .inl (upd t_nameLong (((upd (upd (upd (upd (upd t_mem ((4 + (5 * (t_mem 1))).toNatClampNeg) r52) (((4 + (5 * (t_mem 1))) + 1).toNatClampNeg) r62) (((4 + (5 * (t_mem 1))) + 2).toNatClampNeg) r72) (((4 + (5 * (t_mem 1))) + 3).toNatClampNeg) r82) (((4 + (5 * (t_mem 1))) + 4).toNatClampNeg) r92) 1).toNatClampNeg) v3))), ((a_t 0), .inr (7, [.ref (a_t 1), .ref (a_t 2), .int t_acted, .ref (a_t 4), .ref (a_t 5), .ref (a_t 6), .ref (a_t 7), .ref (a_t 8), .ref (a_t 9), .int t_taped, .int w93, .int w94, .int w95, .int w96, .int w97, .int w98, .int w99, .ref (a_t 18), .ref (a_t 19), .ref (a_t 20), .int t_wide, .int t_lost, .ref (a_t 23), .long t_det, .ref (a_t 25), .int t_mask, .int t_mode, .int t_wanted, .int t_orders, .int t_foundAt, .long t_foundBy, .ref (a_t 32), .ref (a_t 33), .int t_unlikes, .ref (a_t 35), .ref (a_t 36)])), ((a_t 9), .inl (g.2.2.1 0, 600, .inl t_tape))]) (k := 1) cx hG hP hD hS 0 rfl (show ¬ ((1 : Int32) < 0 ∨ 27 ≤ (1 : Int32).toNatClampNeg) by decide) (by decide) rfl dX8_readsKind_300 (fun H locs hP hD hS => ?_)
      have hG := hGk hS
      exact hrt (fun _ => 0) _ _ (upd (upd (upd (upd (upd (upd t_mem ((4 + (5 * (t_mem 1))).toNatClampNeg) r52) (((4 + (5 * (t_mem 1))) + 1).toNatClampNeg) r62) (((4 + (5 * (t_mem 1))) + 2).toNatClampNeg) r72) (((4 + (5 * (t_mem 1))) + 3).toNatClampNeg) r82) (((4 + (5 * (t_mem 1))) + 4).toNatClampNeg) r92) 1 (((upd (upd (upd (upd (upd t_mem ((4 + (5 * (t_mem 1))).toNatClampNeg) r52) (((4 + (5 * (t_mem 1))) + 1).toNatClampNeg) r62) (((4 + (5 * (t_mem 1))) + 2).toNatClampNeg) r72) (((4 + (5 * (t_mem 1))) + 3).toNatClampNeg) r82) (((4 + (5 * (t_mem 1))) + 4).toNatClampNeg) r92) 1) + 1)) w93 w94 w95 w96 w97 w98 w99 (upd t_nameAt (((upd (upd (upd (upd (upd t_mem ((4 + (5 * (t_mem 1))).toNatClampNeg) r52) (((4 + (5 * (t_mem 1))) + 1).toNatClampNeg) r62) (((4 + (5 * (t_mem 1))) + 2).toNatClampNeg) r72) (((4 + (5 * (t_mem 1))) + 3).toNatClampNeg) r82) (((4 + (5 * (t_mem 1))) + 4).toNatClampNeg) r92) 1).toNatClampNeg) v2) (upd t_nameLong (((upd (upd (upd (upd (upd t_mem ((4 + (5 * (t_mem 1))).toNatClampNeg) r52) (((4 + (5 * (t_mem 1))) + 1).toNatClampNeg) r62) (((4 + (5 * (t_mem 1))) + 2).toNatClampNeg) r72) (((4 + (5 * (t_mem 1))) + 3).toNatClampNeg) r82) (((4 + (5 * (t_mem 1))) + 4).toNatClampNeg) r92) 1).toNatClampNeg) v3) _ _ dX8_readsKind_301 h (hP.sub [3, 0, 4, 1, 2] rfl) (hD.sub [3, 0, 4, 1, 2] (by decide) rfl) hS
    · have h := itn c101 h
      exact hrt (fun _ => 0) _ _ t_mem w93 w94 w95 w96 w97 w98 w99 t_nameAt t_nameLong _ _ dX8_readsKind_213 h (hP.sub [3, 0, 4, 1, 2] rfl) (hD.sub [3, 0, 4, 1, 2] (by decide) rfl) hS
  have w130 : ∀ (t_mem : Nat → Int32) (t_faultKind : Int32) (t_faultPlace : Int32) (t_at : Int32) (t_begin : Int32) (t_token : Int32) (t_value : Int32) (t_bad : Int32) (t_nameAt : Nat → Int32) (t_nameLong : Nat → Int32) (v2 : Int32) (v3 : Int32) (H : Heap) (locs : List Loc), va_P g.2.1 vwCl [((a_t 0), .inr (7, [.ref (a_t 1), .ref (a_t 2), .int t_acted, .ref (a_t 4), .ref (a_t 5), .ref (a_t 6), .ref (a_t 7), .ref (a_t 8), .ref (a_t 9), .int t_taped, .int t_faultKind, .int t_faultPlace, .int t_at, .int t_begin, .int t_token, .int t_value, .int t_bad, .ref (a_t 18), .ref (a_t 19), .ref (a_t 20), .int t_wide, .int t_lost, .ref (a_t 23), .long t_det, .ref (a_t 25), .int t_mask, .int t_mode, .int t_wanted, .int t_orders, .int t_foundAt, .long t_foundBy, .ref (a_t 32), .ref (a_t 33), .int t_unlikes, .ref (a_t 35), .ref (a_t 36)])), ((a_t 1), .inl (g.2.2.1 0, 27, .inl t_mem)), ((a_t 9), .inl (g.2.2.1 0, 600, .inl t_tape)), ((a_t 18), .inl (g.2.2.1 0, 3, .inl t_nameAt)), ((a_t 19), .inl (g.2.2.1 0, 3, .inl t_nameLong))] H → va_D A [((a_t 0), .inr (7, [.ref (a_t 1), .ref (a_t 2), .int t_acted, .ref (a_t 4), .ref (a_t 5), .ref (a_t 6), .ref (a_t 7), .ref (a_t 8), .ref (a_t 9), .int t_taped, .int t_faultKind, .int t_faultPlace, .int t_at, .int t_begin, .int t_token, .int t_value, .int t_bad, .ref (a_t 18), .ref (a_t 19), .ref (a_t 20), .int t_wide, .int t_lost, .ref (a_t 23), .long t_det, .ref (a_t 25), .int t_mask, .int t_mode, .int t_wanted, .int t_orders, .int t_foundAt, .long t_foundBy, .ref (a_t 32), .ref (a_t 33), .int t_unlikes, .ref (a_t 35), .ref (a_t 36)])), ((a_t 1), .inl (g.2.2.1 0, 27, .inl t_mem)), ((a_t 9), .inl (g.2.2.1 0, 600, .inl t_tape)), ((a_t 18), .inl (g.2.2.1 0, 3, .inl t_nameAt)), ((a_t 19), .inl (g.2.2.1 0, 3, .inl t_nameLong))] → va_S A s.heap H locs → ∀ (ls : Array Slot), lv_has ls 10 [(0, .ref ((a_t 0))), (2, .int v2), (3, .int v3)] → fX8_readsKind_130  t_mem t_tape t_taped t_faultKind t_faultPlace t_at t_begin t_token t_value t_bad t_nameAt t_nameLong v2 v3 = some (o_t_mem, o_t_faultKind, o_t_faultPlace, o_t_at, o_t_begin, o_t_token, o_t_value, o_t_bad, o_t_nameAt, o_t_nameLong) → W p l e ⟨10, 0, 0, 196⟩ s m args below meth c H locs 0 0 Q (F0 m 130 ls [.ref ((a_t 0))]) := by
    intro t_mem t_faultKind t_faultPlace t_at t_begin t_token t_value t_bad t_nameAt t_nameLong v2 v3 H locs hP hD hS ls hl h
    unfold fX8_readsKind_130 at h
    have hG := hGk hS
    refine lv_iconst (v := 1) hx hb dX8_readsKind_130 (by decide) ?_
    refine lv_goto (tgt := 135) hx hb dX8_readsKind_131 (by decide) ?_
    exact w135 t_mem t_faultKind t_faultPlace t_at t_begin t_token t_value t_bad t_nameAt t_nameLong v2 v3 1 _ _ hP hD hS _ (lv_sub hl [0, 1, 2] rfl) h
  have w99 : ∀ (t_mem : Nat → Int32) (t_faultKind : Int32) (t_faultPlace : Int32) (t_at : Int32) (t_begin : Int32) (t_token : Int32) (t_value : Int32) (t_bad : Int32) (t_nameAt : Nat → Int32) (t_nameLong : Nat → Int32) (H : Heap) (locs : List Loc), va_P g.2.1 vwCl [((a_t 0), .inr (7, [.ref (a_t 1), .ref (a_t 2), .int t_acted, .ref (a_t 4), .ref (a_t 5), .ref (a_t 6), .ref (a_t 7), .ref (a_t 8), .ref (a_t 9), .int t_taped, .int t_faultKind, .int t_faultPlace, .int t_at, .int t_begin, .int t_token, .int t_value, .int t_bad, .ref (a_t 18), .ref (a_t 19), .ref (a_t 20), .int t_wide, .int t_lost, .ref (a_t 23), .long t_det, .ref (a_t 25), .int t_mask, .int t_mode, .int t_wanted, .int t_orders, .int t_foundAt, .long t_foundBy, .ref (a_t 32), .ref (a_t 33), .int t_unlikes, .ref (a_t 35), .ref (a_t 36)])), ((a_t 1), .inl (g.2.2.1 0, 27, .inl t_mem)), ((a_t 9), .inl (g.2.2.1 0, 600, .inl t_tape)), ((a_t 18), .inl (g.2.2.1 0, 3, .inl t_nameAt)), ((a_t 19), .inl (g.2.2.1 0, 3, .inl t_nameLong))] H → va_D A [((a_t 0), .inr (7, [.ref (a_t 1), .ref (a_t 2), .int t_acted, .ref (a_t 4), .ref (a_t 5), .ref (a_t 6), .ref (a_t 7), .ref (a_t 8), .ref (a_t 9), .int t_taped, .int t_faultKind, .int t_faultPlace, .int t_at, .int t_begin, .int t_token, .int t_value, .int t_bad, .ref (a_t 18), .ref (a_t 19), .ref (a_t 20), .int t_wide, .int t_lost, .ref (a_t 23), .long t_det, .ref (a_t 25), .int t_mask, .int t_mode, .int t_wanted, .int t_orders, .int t_foundAt, .long t_foundBy, .ref (a_t 32), .ref (a_t 33), .int t_unlikes, .ref (a_t 35), .ref (a_t 36)])), ((a_t 1), .inl (g.2.2.1 0, 27, .inl t_mem)), ((a_t 9), .inl (g.2.2.1 0, 600, .inl t_tape)), ((a_t 18), .inl (g.2.2.1 0, 3, .inl t_nameAt)), ((a_t 19), .inl (g.2.2.1 0, 3, .inl t_nameLong))] → va_S A s.heap H locs → ∀ (ls : Array Slot), lv_has ls 10 [(0, .ref ((a_t 0)))] → fX8_readsKind_99  t_mem t_tape t_taped t_faultKind t_faultPlace t_at t_begin t_token t_value t_bad t_nameAt t_nameLong = some (o_t_mem, o_t_faultKind, o_t_faultPlace, o_t_at, o_t_begin, o_t_token, o_t_value, o_t_bad, o_t_nameAt, o_t_nameLong) → W p l e ⟨10, 0, 0, 196⟩ s m args below meth c H locs 0 0 Q (F0 m 99 ls []) := by
    intro t_mem t_faultKind t_faultPlace t_at t_begin t_token t_value t_bad t_nameAt t_nameLong H locs hP hD hS ls hl h
    unfold fX8_readsKind_99 at h
    have hG := hGk hS
    refine lv_aload_n hx hb dX8_readsKind_99 rfl (lv_at hl 0 rfl) ?_
    refine xa_get (C := RX8) (T := TX8) (N := 36) cx hG hP 0 rfl rfl uX8 13 (by decide) lf_X8_94 rfl dX8_readsKind_100 ?_
    refine lv_istore_n (lv' := [(2, .int t_begin), (0, .ref ((a_t 0)))]) hx hb dX8_readsKind_103 rfl hl (by decide) rfl (fun ls hl => ?_)
    refine lv_aload_n hx hb dX8_readsKind_104 rfl (lv_at hl 1 rfl) ?_
    refine xa_get (C := RX8) (T := TX8) (N := 36) cx hG hP 0 rfl rfl uX8 12 (by decide) lf_X8_87 rfl dX8_readsKind_105 ?_
    refine lv_aload_n hx hb dX8_readsKind_108 rfl (lv_at hl 1 rfl) ?_
    refine xa_get (C := RX8) (T := TX8) (N := 36) cx hG hP 0 rfl rfl uX8 13 (by decide) lf_X8_94 rfl dX8_readsKind_109 ?_
    refine lv_isub hx hb dX8_readsKind_112 ?_
    refine lv_istore_n (lv' := [(3, .int (t_at - t_begin)), (2, .int t_begin), (0, .ref ((a_t 0)))]) hx hb dX8_readsKind_113 rfl hl (by decide) rfl (fun ls hl => ?_)
    refine lv_aload_n hx hb dX8_readsKind_114 rfl (lv_at hl 2 rfl) ?_
    refine lv_aload_n hx hb dX8_readsKind_115 rfl (lv_at hl 2 rfl) ?_
    refine xa_get (C := RX8) (T := TX8) (N := 36) cx hG hP 0 rfl rfl uX8 16 (by decide) lf_X8_108 rfl dX8_readsKind_116 ?_
    refine lv_if_ne (tgt := 130) hx hb dX8_readsKind_119 (by decide) (fun c40 => ?_) (fun c40 => ?_)
    · have h := itn c40 h
      exact w130 t_mem t_faultKind t_faultPlace t_at t_begin t_token t_value t_bad t_nameAt t_nameLong t_begin (t_at - t_begin) _ _ hP hD hS _ (lv_sub hl [2, 1, 0] rfl) h
    · have h := itp c40 h
      refine lv_aload_n hx hb dX8_readsKind_122 rfl (lv_at hl 2 rfl) ?_
      refine xa_get (C := RX8) (T := TX8) (N := 36) cx hG hP 0 rfl rfl uX8 14 (by decide) lf_X8_100 rfl dX8_readsKind_123 ?_
      refine lv_iconst (v := 1) hx hb dX8_readsKind_126 (by decide) ?_
      refine lv_icmp_ne (tgt := 134) hx hb dX8_readsKind_127 (by decide) (fun c41 => ?_) (fun c41 => ?_)
      · have h := itn c41 h
        refine lv_iconst (v := 0) hx hb dX8_readsKind_134 (by decide) ?_
        exact w135 t_mem t_faultKind t_faultPlace t_at t_begin t_token t_value t_bad t_nameAt t_nameLong t_begin (t_at - t_begin) 0 _ _ hP hD hS _ (lv_sub hl [2, 1, 0] rfl) h
      · have h := itp c41 h
        exact w130 t_mem t_faultKind t_faultPlace t_at t_begin t_token t_value t_bad t_nameAt t_nameLong t_begin (t_at - t_begin) _ _ hP hD hS _ (lv_sub hl [2, 1, 0] rfl) h
  have w94 : ∀ (t_mem : Nat → Int32) (t_faultKind : Int32) (t_faultPlace : Int32) (t_at : Int32) (t_begin : Int32) (t_token : Int32) (t_value : Int32) (t_bad : Int32) (t_nameAt : Nat → Int32) (t_nameLong : Nat → Int32) (H : Heap) (locs : List Loc), va_P g.2.1 vwCl [((a_t 0), .inr (7, [.ref (a_t 1), .ref (a_t 2), .int t_acted, .ref (a_t 4), .ref (a_t 5), .ref (a_t 6), .ref (a_t 7), .ref (a_t 8), .ref (a_t 9), .int t_taped, .int t_faultKind, .int t_faultPlace, .int t_at, .int t_begin, .int t_token, .int t_value, .int t_bad, .ref (a_t 18), .ref (a_t 19), .ref (a_t 20), .int t_wide, .int t_lost, .ref (a_t 23), .long t_det, .ref (a_t 25), .int t_mask, .int t_mode, .int t_wanted, .int t_orders, .int t_foundAt, .long t_foundBy, .ref (a_t 32), .ref (a_t 33), .int t_unlikes, .ref (a_t 35), .ref (a_t 36)])), ((a_t 1), .inl (g.2.2.1 0, 27, .inl t_mem)), ((a_t 9), .inl (g.2.2.1 0, 600, .inl t_tape)), ((a_t 18), .inl (g.2.2.1 0, 3, .inl t_nameAt)), ((a_t 19), .inl (g.2.2.1 0, 3, .inl t_nameLong))] H → va_D A [((a_t 0), .inr (7, [.ref (a_t 1), .ref (a_t 2), .int t_acted, .ref (a_t 4), .ref (a_t 5), .ref (a_t 6), .ref (a_t 7), .ref (a_t 8), .ref (a_t 9), .int t_taped, .int t_faultKind, .int t_faultPlace, .int t_at, .int t_begin, .int t_token, .int t_value, .int t_bad, .ref (a_t 18), .ref (a_t 19), .ref (a_t 20), .int t_wide, .int t_lost, .ref (a_t 23), .long t_det, .ref (a_t 25), .int t_mask, .int t_mode, .int t_wanted, .int t_orders, .int t_foundAt, .long t_foundBy, .ref (a_t 32), .ref (a_t 33), .int t_unlikes, .ref (a_t 35), .ref (a_t 36)])), ((a_t 1), .inl (g.2.2.1 0, 27, .inl t_mem)), ((a_t 9), .inl (g.2.2.1 0, 600, .inl t_tape)), ((a_t 18), .inl (g.2.2.1 0, 3, .inl t_nameAt)), ((a_t 19), .inl (g.2.2.1 0, 3, .inl t_nameLong))] → va_S A s.heap H locs → ∀ (ls : Array Slot), lv_has ls 10 [(0, .ref ((a_t 0)))] → fX8_readsKind_94  t_mem t_tape t_taped t_faultKind t_faultPlace t_at t_begin t_token t_value t_bad t_nameAt t_nameLong = some (o_t_mem, o_t_faultKind, o_t_faultPlace, o_t_at, o_t_begin, o_t_token, o_t_value, o_t_bad, o_t_nameAt, o_t_nameLong) → W p l e ⟨10, 0, 0, 196⟩ s m args below meth c H locs 0 0 Q (F0 m 94 ls []) := by
    intro t_mem t_faultKind t_faultPlace t_at t_begin t_token t_value t_bad t_nameAt t_nameLong H locs hP hD hS ls hl h
    unfold fX8_readsKind_94 at h
    have hG := hGk hS
    refine lv_aload_n hx hb dX8_readsKind_94 rfl (lv_at hl 0 rfl) ?_
    refine lv_iconst (v := 2) hx hb dX8_readsKind_95 (by decide) ?_
    obtain ⟨w36, w37, w38, hr35, h⟩ := ob3_out h
    refine rw_v (WN := fun u39 => [((a_t 1), .inl (g.2.2.1 0, 27, .inl t_mem)), ((a_t 9), .inl (g.2.2.1 0, 600, .inl t_tape)), ((a_t 18), .inl (g.2.2.1 0, 3, .inl t_nameAt)), ((a_t 19), .inl (g.2.2.1 0, 3, .inl t_nameLong)), ((a_t 0), .inr (7, [.ref (a_t 1), .ref (a_t 2), .int t_acted, .ref (a_t 4), .ref (a_t 5), .ref (a_t 6), .ref (a_t 7), .ref (a_t 8), .ref (a_t 9), .int t_taped, .int w36, .int w37, .int t_at, .int t_begin, .int t_token, .int t_value, .int w38, .ref (a_t 18), .ref (a_t 19), .ref (a_t 20), .int t_wide, .int t_lost, .ref (a_t 23), .long t_det, .ref (a_t 25), .int t_mask, .int t_mode, .int t_wanted, .int t_orders, .int t_foundAt, .long t_foundBy, .ref (a_t 32), .ref (a_t 33), .int t_unlikes, .ref (a_t 35), .ref (a_t 36)]))]) (wr := [((a_t 1), .inl (g.2.2.1 0, 27, .inl t_mem)), ((a_t 9), .inl (g.2.2.1 0, 600, .inl t_tape)), ((a_t 18), .inl (g.2.2.1 0, 3, .inl t_nameAt)), ((a_t 19), .inl (g.2.2.1 0, 3, .inl t_nameLong))]) (runV (As := [.int (2)]) (rest := []) cx hl.1 (ctX8_faults l g H.size a_t t_acted t_taped t_faultKind t_faultPlace t_at t_begin t_token t_value t_bad t_wide t_lost t_det t_mask t_mode t_wanted t_orders t_foundAt t_foundBy t_unlikes (2) w36 w37 w38 hr35) kmX8_faults kvX8_faults lm_X8_125 ⟨rfl, rfl⟩ ⟨Nat.le_of_ble_eq_true rfl, Nat.le_of_ble_eq_true rfl⟩ (rwV (q0 := 0) (ci := 7) hG (hP.sub [0] rfl) (hD.sub [0] (by decide) rfl) hAb hb0 hS hP rfl rfl) rfl rfl (Nat.le_of_ble_eq_true rfl) dX8_readsKind_96 ⟨Nat.le_of_ble_eq_true rfl, Nat.le_of_ble_eq_true rfl⟩) hP hD hS hA [0] [1, 2, 3, 4] rfl rfl (by decide) (by decide) (fun _ => rfl) (fun u39 H locs hP hD hS => ?_)
    have hG := hGk hS
    exact w99 t_mem w36 w37 t_at t_begin t_token t_value w38 t_nameAt t_nameLong _ _ (hP.sub [4, 0, 1, 2, 3] rfl) (hD.sub [4, 0, 1, 2, 3] (by decide) rfl) hS _ (lv_sub hl [0] rfl) h
  have w52 : ∀ (t_mem : Nat → Int32) (t_faultKind : Int32) (t_faultPlace : Int32) (t_at : Int32) (t_begin : Int32) (t_token : Int32) (t_value : Int32) (t_bad : Int32) (t_nameAt : Nat → Int32) (t_nameLong : Nat → Int32) (z0 : Int32) (H : Heap) (locs : List Loc), va_P g.2.1 vwCl [((a_t 0), .inr (7, [.ref (a_t 1), .ref (a_t 2), .int t_acted, .ref (a_t 4), .ref (a_t 5), .ref (a_t 6), .ref (a_t 7), .ref (a_t 8), .ref (a_t 9), .int t_taped, .int t_faultKind, .int t_faultPlace, .int t_at, .int t_begin, .int t_token, .int t_value, .int t_bad, .ref (a_t 18), .ref (a_t 19), .ref (a_t 20), .int t_wide, .int t_lost, .ref (a_t 23), .long t_det, .ref (a_t 25), .int t_mask, .int t_mode, .int t_wanted, .int t_orders, .int t_foundAt, .long t_foundBy, .ref (a_t 32), .ref (a_t 33), .int t_unlikes, .ref (a_t 35), .ref (a_t 36)])), ((a_t 1), .inl (g.2.2.1 0, 27, .inl t_mem)), ((a_t 9), .inl (g.2.2.1 0, 600, .inl t_tape)), ((a_t 18), .inl (g.2.2.1 0, 3, .inl t_nameAt)), ((a_t 19), .inl (g.2.2.1 0, 3, .inl t_nameLong))] H → va_D A [((a_t 0), .inr (7, [.ref (a_t 1), .ref (a_t 2), .int t_acted, .ref (a_t 4), .ref (a_t 5), .ref (a_t 6), .ref (a_t 7), .ref (a_t 8), .ref (a_t 9), .int t_taped, .int t_faultKind, .int t_faultPlace, .int t_at, .int t_begin, .int t_token, .int t_value, .int t_bad, .ref (a_t 18), .ref (a_t 19), .ref (a_t 20), .int t_wide, .int t_lost, .ref (a_t 23), .long t_det, .ref (a_t 25), .int t_mask, .int t_mode, .int t_wanted, .int t_orders, .int t_foundAt, .long t_foundBy, .ref (a_t 32), .ref (a_t 33), .int t_unlikes, .ref (a_t 35), .ref (a_t 36)])), ((a_t 1), .inl (g.2.2.1 0, 27, .inl t_mem)), ((a_t 9), .inl (g.2.2.1 0, 600, .inl t_tape)), ((a_t 18), .inl (g.2.2.1 0, 3, .inl t_nameAt)), ((a_t 19), .inl (g.2.2.1 0, 3, .inl t_nameLong))] → va_S A s.heap H locs → ∀ (ls : Array Slot), lv_has ls 10 [(0, .ref ((a_t 0)))] → fX8_readsKind_52  t_mem t_tape t_taped t_faultKind t_faultPlace t_at t_begin t_token t_value t_bad t_nameAt t_nameLong z0 = some (o_t_mem, o_t_faultKind, o_t_faultPlace, o_t_at, o_t_begin, o_t_token, o_t_value, o_t_bad, o_t_nameAt, o_t_nameLong) → W p l e ⟨10, 0, 0, 196⟩ s m args below meth c H locs 0 0 Q (F0 m 52 ls [.int z0]) := by
    intro t_mem t_faultKind t_faultPlace t_at t_begin t_token t_value t_bad t_nameAt t_nameLong z0 H locs hP hD hS ls hl h
    unfold fX8_readsKind_52 at h
    have hG := hGk hS
    refine lv_istore_n (lv' := [(1, .int z0), (0, .ref ((a_t 0)))]) hx hb dX8_readsKind_52 rfl hl (by decide) rfl (fun ls hl => ?_)
    refine lv_aload_n hx hb dX8_readsKind_53 rfl (lv_at hl 1 rfl) ?_
    refine xa_get (C := RX8) (T := TX8) (N := 36) cx hG hP 0 rfl rfl uX8 16 (by decide) lf_X8_108 rfl dX8_readsKind_54 ?_
    refine lv_if_ne (tgt := 99) hx hb dX8_readsKind_57 (by decide) (fun c28 => ?_) (fun c28 => ?_)
    · have h := itn c28 h
      exact w99 t_mem t_faultKind t_faultPlace t_at t_begin t_token t_value t_bad t_nameAt t_nameLong _ _ hP hD hS _ (lv_sub hl [1] rfl) h
    · have h := itp c28 h
      refine lv_aload_n hx hb dX8_readsKind_60 rfl (lv_at hl 1 rfl) ?_
      refine xa_get (C := RX8) (T := TX8) (N := 36) cx hG hP 0 rfl rfl uX8 14 (by decide) lf_X8_100 rfl dX8_readsKind_61 ?_
      refine lv_iconst (v := 1) hx hb dX8_readsKind_64 (by decide) ?_
      refine lv_icmp_ne (tgt := 99) hx hb dX8_readsKind_65 (by decide) (fun c29 => ?_) (fun c29 => ?_)
      · have h := itn c29 h
        exact w99 t_mem t_faultKind t_faultPlace t_at t_begin t_token t_value t_bad t_nameAt t_nameLong _ _ hP hD hS _ (lv_sub hl [1] rfl) h
      · have h := itp c29 h
        refine lv_aload_n hx hb dX8_readsKind_68 rfl (lv_at hl 1 rfl) ?_
        refine xa_get (C := RX8) (T := TX8) (N := 36) cx hG hP 0 rfl rfl uX8 12 (by decide) lf_X8_87 rfl dX8_readsKind_69 ?_
        refine lv_aload_n hx hb dX8_readsKind_72 rfl (lv_at hl 1 rfl) ?_
        refine xa_get (C := RX8) (T := TX8) (N := 36) cx hG hP 0 rfl rfl uX8 13 (by decide) lf_X8_94 rfl dX8_readsKind_73 ?_
        refine lv_isub hx hb dX8_readsKind_76 ?_
        refine lv_bipush (v := 6) hx hb dX8_readsKind_77 (by decide) ?_
        refine lv_icmp_gt (tgt := 94) hx hb dX8_readsKind_79 (by decide) (fun c30 => ?_) (fun c30 => ?_)
        · have h := itp c30 h
          exact w94 t_mem t_faultKind t_faultPlace t_at t_begin t_token t_value t_bad t_nameAt t_nameLong _ _ hP hD hS _ (lv_sub hl [1] rfl) h
        · have h := itn c30 h
          refine lv_iload_n hx hb dX8_readsKind_82 rfl (lv_at hl 0 rfl) ?_
          refine lv_if_ne (tgt := 94) hx hb dX8_readsKind_83 (by decide) (fun c31 => ?_) (fun c31 => ?_)
          · have h := itn c31 h
            exact w94 t_mem t_faultKind t_faultPlace t_at t_begin t_token t_value t_bad t_nameAt t_nameLong _ _ hP hD hS _ (lv_sub hl [1] rfl) h
          · have h := itp c31 h
            refine lv_aload_n hx hb dX8_readsKind_86 rfl (lv_at hl 1 rfl) ?_
            obtain ⟨r32, hr33, h⟩ := bnd h
            refine ro_i (runV (As := []) (rest := []) cx hl.1 (ctX8_kindHere l g a_t t_acted t_taped t_faultKind t_faultPlace t_at t_begin t_token t_value t_bad t_wide t_lost t_det t_mask t_mode t_wanted t_orders t_foundAt t_foundBy t_unlikes t_mem t_tape t_nameAt t_nameLong r32 hr33) kmX8_kindHere kvX8_kindHere lm_X8_155 ⟨rfl, rfl⟩ ⟨Nat.le_of_ble_eq_true rfl, Nat.le_of_ble_eq_true rfl⟩ (roV (q0 := 0) (ci := 7) hG (hP.sub [0, 1, 2, 3, 4] rfl) hP rfl rfl) rfl rfl (Nat.le_of_ble_eq_true rfl) dX8_readsKind_87 ⟨Nat.le_of_ble_eq_true rfl, Nat.le_of_ble_eq_true rfl⟩) ?_
            refine lv_iconst (v := -1) hx hb dX8_readsKind_90 (by decide) ?_
            refine lv_icmp_eq (tgt := 99) hx hb dX8_readsKind_91 (by decide) (fun c34 => ?_) (fun c34 => ?_)
            · have h := itp c34 h
              exact w99 t_mem t_faultKind t_faultPlace t_at t_begin t_token t_value t_bad t_nameAt t_nameLong _ _ hP hD hS _ (lv_sub hl [1] rfl) h
            · have h := itn c34 h
              exact w94 t_mem t_faultKind t_faultPlace t_at t_begin t_token t_value t_bad t_nameAt t_nameLong _ _ hP hD hS _ (lv_sub hl [1] rfl) h
  have w47 : ∀ (t_mem : Nat → Int32) (t_faultKind : Int32) (t_faultPlace : Int32) (t_at : Int32) (t_begin : Int32) (t_token : Int32) (t_value : Int32) (t_bad : Int32) (t_nameAt : Nat → Int32) (t_nameLong : Nat → Int32) (H : Heap) (locs : List Loc), va_P g.2.1 vwCl [((a_t 0), .inr (7, [.ref (a_t 1), .ref (a_t 2), .int t_acted, .ref (a_t 4), .ref (a_t 5), .ref (a_t 6), .ref (a_t 7), .ref (a_t 8), .ref (a_t 9), .int t_taped, .int t_faultKind, .int t_faultPlace, .int t_at, .int t_begin, .int t_token, .int t_value, .int t_bad, .ref (a_t 18), .ref (a_t 19), .ref (a_t 20), .int t_wide, .int t_lost, .ref (a_t 23), .long t_det, .ref (a_t 25), .int t_mask, .int t_mode, .int t_wanted, .int t_orders, .int t_foundAt, .long t_foundBy, .ref (a_t 32), .ref (a_t 33), .int t_unlikes, .ref (a_t 35), .ref (a_t 36)])), ((a_t 1), .inl (g.2.2.1 0, 27, .inl t_mem)), ((a_t 9), .inl (g.2.2.1 0, 600, .inl t_tape)), ((a_t 18), .inl (g.2.2.1 0, 3, .inl t_nameAt)), ((a_t 19), .inl (g.2.2.1 0, 3, .inl t_nameLong))] H → va_D A [((a_t 0), .inr (7, [.ref (a_t 1), .ref (a_t 2), .int t_acted, .ref (a_t 4), .ref (a_t 5), .ref (a_t 6), .ref (a_t 7), .ref (a_t 8), .ref (a_t 9), .int t_taped, .int t_faultKind, .int t_faultPlace, .int t_at, .int t_begin, .int t_token, .int t_value, .int t_bad, .ref (a_t 18), .ref (a_t 19), .ref (a_t 20), .int t_wide, .int t_lost, .ref (a_t 23), .long t_det, .ref (a_t 25), .int t_mask, .int t_mode, .int t_wanted, .int t_orders, .int t_foundAt, .long t_foundBy, .ref (a_t 32), .ref (a_t 33), .int t_unlikes, .ref (a_t 35), .ref (a_t 36)])), ((a_t 1), .inl (g.2.2.1 0, 27, .inl t_mem)), ((a_t 9), .inl (g.2.2.1 0, 600, .inl t_tape)), ((a_t 18), .inl (g.2.2.1 0, 3, .inl t_nameAt)), ((a_t 19), .inl (g.2.2.1 0, 3, .inl t_nameLong))] → va_S A s.heap H locs → ∀ (ls : Array Slot), lv_has ls 10 [(0, .ref ((a_t 0)))] → fX8_readsKind_47  t_mem t_tape t_taped t_faultKind t_faultPlace t_at t_begin t_token t_value t_bad t_nameAt t_nameLong = some (o_t_mem, o_t_faultKind, o_t_faultPlace, o_t_at, o_t_begin, o_t_token, o_t_value, o_t_bad, o_t_nameAt, o_t_nameLong) → W p l e ⟨10, 0, 0, 196⟩ s m args below meth c H locs 0 0 Q (F0 m 47 ls []) := by
    intro t_mem t_faultKind t_faultPlace t_at t_begin t_token t_value t_bad t_nameAt t_nameLong H locs hP hD hS ls hl h
    unfold fX8_readsKind_47 at h
    have hG := hGk hS
    refine lv_iconst (v := 1) hx hb dX8_readsKind_47 (by decide) ?_
    refine lv_goto (tgt := 52) hx hb dX8_readsKind_48 (by decide) ?_
    exact w52 t_mem t_faultKind t_faultPlace t_at t_begin t_token t_value t_bad t_nameAt t_nameLong 1 _ _ hP hD hS _ (lv_sub hl [0] rfl) h
  have w15 : ∀ (t_mem : Nat → Int32) (t_faultKind : Int32) (t_faultPlace : Int32) (t_at : Int32) (t_begin : Int32) (t_token : Int32) (t_value : Int32) (t_bad : Int32) (t_nameAt : Nat → Int32) (t_nameLong : Nat → Int32) (H : Heap) (locs : List Loc), va_P g.2.1 vwCl [((a_t 0), .inr (7, [.ref (a_t 1), .ref (a_t 2), .int t_acted, .ref (a_t 4), .ref (a_t 5), .ref (a_t 6), .ref (a_t 7), .ref (a_t 8), .ref (a_t 9), .int t_taped, .int t_faultKind, .int t_faultPlace, .int t_at, .int t_begin, .int t_token, .int t_value, .int t_bad, .ref (a_t 18), .ref (a_t 19), .ref (a_t 20), .int t_wide, .int t_lost, .ref (a_t 23), .long t_det, .ref (a_t 25), .int t_mask, .int t_mode, .int t_wanted, .int t_orders, .int t_foundAt, .long t_foundBy, .ref (a_t 32), .ref (a_t 33), .int t_unlikes, .ref (a_t 35), .ref (a_t 36)])), ((a_t 1), .inl (g.2.2.1 0, 27, .inl t_mem)), ((a_t 9), .inl (g.2.2.1 0, 600, .inl t_tape)), ((a_t 18), .inl (g.2.2.1 0, 3, .inl t_nameAt)), ((a_t 19), .inl (g.2.2.1 0, 3, .inl t_nameLong))] H → va_D A [((a_t 0), .inr (7, [.ref (a_t 1), .ref (a_t 2), .int t_acted, .ref (a_t 4), .ref (a_t 5), .ref (a_t 6), .ref (a_t 7), .ref (a_t 8), .ref (a_t 9), .int t_taped, .int t_faultKind, .int t_faultPlace, .int t_at, .int t_begin, .int t_token, .int t_value, .int t_bad, .ref (a_t 18), .ref (a_t 19), .ref (a_t 20), .int t_wide, .int t_lost, .ref (a_t 23), .long t_det, .ref (a_t 25), .int t_mask, .int t_mode, .int t_wanted, .int t_orders, .int t_foundAt, .long t_foundBy, .ref (a_t 32), .ref (a_t 33), .int t_unlikes, .ref (a_t 35), .ref (a_t 36)])), ((a_t 1), .inl (g.2.2.1 0, 27, .inl t_mem)), ((a_t 9), .inl (g.2.2.1 0, 600, .inl t_tape)), ((a_t 18), .inl (g.2.2.1 0, 3, .inl t_nameAt)), ((a_t 19), .inl (g.2.2.1 0, 3, .inl t_nameLong))] → va_S A s.heap H locs → ∀ (ls : Array Slot), lv_has ls 10 [(0, .ref ((a_t 0)))] → fX8_readsKind_15  t_mem t_tape t_taped t_faultKind t_faultPlace t_at t_begin t_token t_value t_bad t_nameAt t_nameLong = some (o_t_mem, o_t_faultKind, o_t_faultPlace, o_t_at, o_t_begin, o_t_token, o_t_value, o_t_bad, o_t_nameAt, o_t_nameLong) → W p l e ⟨10, 0, 0, 196⟩ s m args below meth c H locs 0 0 Q (F0 m 15 ls []) := by
    intro t_mem t_faultKind t_faultPlace t_at t_begin t_token t_value t_bad t_nameAt t_nameLong H locs hP hD hS ls hl h
    unfold fX8_readsKind_15 at h
    have hG := hGk hS
    refine lv_aload_n hx hb dX8_readsKind_15 rfl (lv_at hl 0 rfl) ?_
    refine lv_iconst (v := 1) hx hb dX8_readsKind_16 (by decide) ?_
    obtain ⟨w8, w9, w10, w11, w12, w13, w14, hr7, h⟩ := ob7_out h
    refine rw_v (WN := fun u15 => [((a_t 1), .inl (g.2.2.1 0, 27, .inl t_mem)), ((a_t 18), .inl (g.2.2.1 0, 3, .inl t_nameAt)), ((a_t 19), .inl (g.2.2.1 0, 3, .inl t_nameLong)), ((a_t 0), .inr (7, [.ref (a_t 1), .ref (a_t 2), .int t_acted, .ref (a_t 4), .ref (a_t 5), .ref (a_t 6), .ref (a_t 7), .ref (a_t 8), .ref (a_t 9), .int t_taped, .int w8, .int w9, .int w10, .int w11, .int w12, .int w13, .int w14, .ref (a_t 18), .ref (a_t 19), .ref (a_t 20), .int t_wide, .int t_lost, .ref (a_t 23), .long t_det, .ref (a_t 25), .int t_mask, .int t_mode, .int t_wanted, .int t_orders, .int t_foundAt, .long t_foundBy, .ref (a_t 32), .ref (a_t 33), .int t_unlikes, .ref (a_t 35), .ref (a_t 36)])), ((a_t 9), .inl (g.2.2.1 0, 600, .inl t_tape))]) (wr := [((a_t 1), .inl (g.2.2.1 0, 27, .inl t_mem)), ((a_t 18), .inl (g.2.2.1 0, 3, .inl t_nameAt)), ((a_t 19), .inl (g.2.2.1 0, 3, .inl t_nameLong))]) (runV (As := [.int (1)]) (rest := []) cx hl.1 (ctX8_passes l g H.size a_t t_acted t_taped t_faultKind t_faultPlace t_at t_begin t_token t_value t_bad t_wide t_lost t_det t_mask t_mode t_wanted t_orders t_foundAt t_foundBy t_unlikes t_tape (1) w8 w9 w10 w11 w12 w13 w14 hr7) kmX8_passes kvX8_passes lm_X8_132 ⟨rfl, rfl⟩ ⟨Nat.le_of_ble_eq_true rfl, Nat.le_of_ble_eq_true rfl⟩ (rwV (q0 := 0) (ci := 7) hG (hP.sub [0, 2] rfl) (hD.sub [0, 2] (by decide) rfl) hAb hb0 hS hP rfl rfl) rfl rfl (Nat.le_of_ble_eq_true rfl) dX8_readsKind_17 ⟨Nat.le_of_ble_eq_true rfl, Nat.le_of_ble_eq_true rfl⟩) hP hD hS hA [0, 2] [1, 3, 4] rfl rfl (by decide) (by decide) (fun _ => rfl) (fun u15 H locs hP hD hS => ?_)
    have hG := hGk hS
    refine lv_aload_n hx hb dX8_readsKind_20 rfl (lv_at hl 0 rfl) ?_
    refine va_ldcS (own := RX8) (tx := "plate") (q := g.2.2.2.2.1 0) hx hb cx.2.2.2.1 (GE_st hG sr_13) dX8_readsKind_21 ?_
    obtain ⟨r16, hr17, h⟩ := bnd h
    refine ro_z (runV (As := [.ref ((g.2.2.2.2.1 0))]) (rest := []) cx hl.1 (ctX8_isWord l g a_t t_acted t_taped w8 w9 w10 w11 w12 w13 w14 t_wide t_lost t_det t_mask t_mode t_wanted t_orders t_foundAt t_foundBy t_unlikes t_tape 0 (by decide) r16 hr17) kmX8_isWord kvX8_isWord lm_X8_136 ⟨rfl, rfl⟩ ⟨Nat.le_of_ble_eq_true rfl, Nat.le_of_ble_eq_true rfl⟩ (roV (q0 := 3) (ci := 7) hG (hP.sub [3, 4] rfl) hP rfl rfl) rfl rfl (Nat.le_of_ble_eq_true rfl) dX8_readsKind_23 ⟨Nat.le_of_ble_eq_true rfl, Nat.le_of_ble_eq_true rfl⟩) (fun hz18 => ?_)
    refine lv_if_ne (tgt := 47) hx hb dX8_readsKind_26 (by decide) (fun c19 => ?_) (fun c19 => ?_)
    · have h := itn c19 h
      exact w47 t_mem w8 w9 w10 w11 w12 w13 w14 t_nameAt t_nameLong _ _ (hP.sub [3, 0, 4, 1, 2] rfl) (hD.sub [3, 0, 4, 1, 2] (by decide) rfl) hS _ (lv_sub hl [0] rfl) h
    · have h := itp c19 h
      refine lv_aload_n hx hb dX8_readsKind_29 rfl (lv_at hl 0 rfl) ?_
      refine va_ldcS (own := RX8) (tx := "kind") (q := g.2.2.2.2.1 2) hx hb cx.2.2.2.1 (GE_st hG sr_15) dX8_readsKind_30 ?_
      obtain ⟨r20, hr21, h⟩ := bnd h
      refine ro_z (runV (As := [.ref ((g.2.2.2.2.1 2))]) (rest := []) cx hl.1 (ctX8_isWord l g a_t t_acted t_taped w8 w9 w10 w11 w12 w13 w14 t_wide t_lost t_det t_mask t_mode t_wanted t_orders t_foundAt t_foundBy t_unlikes t_tape 2 (by decide) r20 hr21) kmX8_isWord kvX8_isWord lm_X8_136 ⟨rfl, rfl⟩ ⟨Nat.le_of_ble_eq_true rfl, Nat.le_of_ble_eq_true rfl⟩ (roV (q0 := 3) (ci := 7) hG (hP.sub [3, 4] rfl) hP rfl rfl) rfl rfl (Nat.le_of_ble_eq_true rfl) dX8_readsKind_32 ⟨Nat.le_of_ble_eq_true rfl, Nat.le_of_ble_eq_true rfl⟩) (fun hz22 => ?_)
      refine lv_if_ne (tgt := 47) hx hb dX8_readsKind_35 (by decide) (fun c23 => ?_) (fun c23 => ?_)
      · have h := itn c23 h
        exact w47 t_mem w8 w9 w10 w11 w12 w13 w14 t_nameAt t_nameLong _ _ (hP.sub [3, 0, 4, 1, 2] rfl) (hD.sub [3, 0, 4, 1, 2] (by decide) rfl) hS _ (lv_sub hl [0] rfl) h
      · have h := itp c23 h
        refine lv_aload_n hx hb dX8_readsKind_38 rfl (lv_at hl 0 rfl) ?_
        refine va_ldcS (own := RX8) (tx := "ply") (q := g.2.2.2.2.1 3) hx hb cx.2.2.2.1 (GE_st hG sr_16) dX8_readsKind_39 ?_
        obtain ⟨r24, hr25, h⟩ := bnd h
        refine ro_z (runV (As := [.ref ((g.2.2.2.2.1 3))]) (rest := []) cx hl.1 (ctX8_isWord l g a_t t_acted t_taped w8 w9 w10 w11 w12 w13 w14 t_wide t_lost t_det t_mask t_mode t_wanted t_orders t_foundAt t_foundBy t_unlikes t_tape 3 (by decide) r24 hr25) kmX8_isWord kvX8_isWord lm_X8_136 ⟨rfl, rfl⟩ ⟨Nat.le_of_ble_eq_true rfl, Nat.le_of_ble_eq_true rfl⟩ (roV (q0 := 3) (ci := 7) hG (hP.sub [3, 4] rfl) hP rfl rfl) rfl rfl (Nat.le_of_ble_eq_true rfl) dX8_readsKind_41 ⟨Nat.le_of_ble_eq_true rfl, Nat.le_of_ble_eq_true rfl⟩) (fun hz26 => ?_)
        refine lv_if_eq (tgt := 51) hx hb dX8_readsKind_44 (by decide) (fun c27 => ?_) (fun c27 => ?_)
        · have h := itp c27 h
          refine lv_iconst (v := 0) hx hb dX8_readsKind_51 (by decide) ?_
          exact w52 t_mem w8 w9 w10 w11 w12 w13 w14 t_nameAt t_nameLong 0 _ _ (hP.sub [3, 0, 4, 1, 2] rfl) (hD.sub [3, 0, 4, 1, 2] (by decide) rfl) hS _ (lv_sub hl [0] rfl) h
        · have h := itn c27 h
          exact w47 t_mem w8 w9 w10 w11 w12 w13 w14 t_nameAt t_nameLong _ _ (hP.sub [3, 0, 4, 1, 2] rfl) (hD.sub [3, 0, 4, 1, 2] (by decide) rfl) hS _ (lv_sub hl [0] rfl) h
  unfold fX8_readsKind at h
  refine lv_aload_n hx hb dX8_readsKind_0 rfl (lv_at hl 0 rfl) ?_
  refine xa_get (C := RX8) (T := TX8) (N := 36) cx hG hP 0 rfl rfl uX8 0 (by decide) lf_X8_21 rfl dX8_readsKind_1 ?_
  refine lv_iconst (v := 1) hx hb dX8_readsKind_4 (by decide) ?_
  refine xa_iald (k := 1) cx hG hP 1 rfl (show ¬ ((1 : Int32) < 0 ∨ 27 ≤ (1 : Int32).toNatClampNeg) by decide) (by decide) dX8_readsKind_5 ?_
  refine lv_iconst (v := 3) hx hb dX8_readsKind_6 (by decide) ?_
  refine lv_icmp_ne (tgt := 15) hx hb dX8_readsKind_7 (by decide) (fun c1 => ?_) (fun c1 => ?_)
  · have h := itn c1 h
    exact w15 t_mem t_faultKind t_faultPlace t_at t_begin t_token t_value t_bad t_nameAt t_nameLong _ _ hP hD hS _ (lv_sub hl [0] rfl) h
  · have h := itp c1 h
    refine lv_aload_n hx hb dX8_readsKind_10 rfl (lv_at hl 0 rfl) ?_
    refine lv_iconst (v := 3) hx hb dX8_readsKind_11 (by decide) ?_
    obtain ⟨w3, w4, w5, hr2, h⟩ := ob3_out h
    refine rw_v (WN := fun u6 => [((a_t 1), .inl (g.2.2.1 0, 27, .inl t_mem)), ((a_t 9), .inl (g.2.2.1 0, 600, .inl t_tape)), ((a_t 18), .inl (g.2.2.1 0, 3, .inl t_nameAt)), ((a_t 19), .inl (g.2.2.1 0, 3, .inl t_nameLong)), ((a_t 0), .inr (7, [.ref (a_t 1), .ref (a_t 2), .int t_acted, .ref (a_t 4), .ref (a_t 5), .ref (a_t 6), .ref (a_t 7), .ref (a_t 8), .ref (a_t 9), .int t_taped, .int w3, .int w4, .int t_at, .int t_begin, .int t_token, .int t_value, .int w5, .ref (a_t 18), .ref (a_t 19), .ref (a_t 20), .int t_wide, .int t_lost, .ref (a_t 23), .long t_det, .ref (a_t 25), .int t_mask, .int t_mode, .int t_wanted, .int t_orders, .int t_foundAt, .long t_foundBy, .ref (a_t 32), .ref (a_t 33), .int t_unlikes, .ref (a_t 35), .ref (a_t 36)]))]) (wr := [((a_t 1), .inl (g.2.2.1 0, 27, .inl t_mem)), ((a_t 9), .inl (g.2.2.1 0, 600, .inl t_tape)), ((a_t 18), .inl (g.2.2.1 0, 3, .inl t_nameAt)), ((a_t 19), .inl (g.2.2.1 0, 3, .inl t_nameLong))]) (runV (As := [.int (3)]) (rest := []) cx hl.1 (ctX8_faults l g s.heap.size a_t t_acted t_taped t_faultKind t_faultPlace t_at t_begin t_token t_value t_bad t_wide t_lost t_det t_mask t_mode t_wanted t_orders t_foundAt t_foundBy t_unlikes (3) w3 w4 w5 hr2) kmX8_faults kvX8_faults lm_X8_125 ⟨rfl, rfl⟩ ⟨Nat.le_of_ble_eq_true rfl, Nat.le_of_ble_eq_true rfl⟩ (rwV (q0 := 0) (ci := 7) hG (hP.sub [0] rfl) (hD.sub [0] (by decide) rfl) hAb hb0 hS hP rfl rfl) rfl rfl (Nat.le_of_ble_eq_true rfl) dX8_readsKind_12 ⟨Nat.le_of_ble_eq_true rfl, Nat.le_of_ble_eq_true rfl⟩) hP hD hS hA [0] [1, 2, 3, 4] rfl rfl (by decide) (by decide) (fun _ => rfl) (fun u6 H locs hP hD hS => ?_)
    have hG := hGk hS
    exact w15 t_mem w3 w4 t_at t_begin t_token t_value w5 t_nameAt t_nameLong _ _ (hP.sub [4, 0, 1, 2, 3] rfl) (hD.sub [4, 0, 1, 2, 3] (by decide) rfl) hS _ (lv_sub hl [0] rfl) h
