-- X0_shapeOf
theorem dX0_shapeOf_0 : decode cX0_shapeOf 0 = .ok (.iload_n 2, 1) := by decide +kernel
theorem dX0_shapeOf_1 : decode cX0_shapeOf 1 = .ok (.aload_n 0, 1) := by decide +kernel
theorem dX0_shapeOf_2 : decode cX0_shapeOf 2 = .ok (.getfield 41, 3) := by decide +kernel
theorem dX0_shapeOf_5 : decode cX0_shapeOf 5 = .ok (.invokestatic 88, 3) := by decide +kernel
theorem dX0_shapeOf_8 : decode cX0_shapeOf 8 = .ok (.ifCond .eq 7, 3) := by decide +kernel
theorem dX0_shapeOf_11 : decode cX0_shapeOf 11 = .ok (.iconst 1, 1) := by decide +kernel
theorem dX0_shapeOf_12 : decode cX0_shapeOf 12 = .ok (.goto 4, 3) := by decide +kernel
theorem dX0_shapeOf_15 : decode cX0_shapeOf 15 = .ok (.iconst 0, 1) := by decide +kernel
theorem dX0_shapeOf_16 : decode cX0_shapeOf 16 = .ok (.istore 5, 2) := by decide +kernel
theorem dX0_shapeOf_18 : decode cX0_shapeOf 18 = .ok (.iload 5, 2) := by decide +kernel
theorem dX0_shapeOf_20 : decode cX0_shapeOf 20 = .ok (.ifCond .ne 19, 3) := by decide +kernel
theorem dX0_shapeOf_23 : decode cX0_shapeOf 23 = .ok (.iload_n 3, 1) := by decide +kernel
theorem dX0_shapeOf_24 : decode cX0_shapeOf 24 = .ok (.ifCond .ne 21, 3) := by decide +kernel
theorem dX0_shapeOf_27 : decode cX0_shapeOf 27 = .ok (.aload_n 1, 1) := by decide +kernel
theorem dX0_shapeOf_28 : decode cX0_shapeOf 28 = .ok (.iload_n 2, 1) := by decide +kernel
theorem dX0_shapeOf_29 : decode cX0_shapeOf 29 = .ok (.aload_n 0, 1) := by decide +kernel
theorem dX0_shapeOf_30 : decode cX0_shapeOf 30 = .ok (.getfield 41, 3) := by decide +kernel
theorem dX0_shapeOf_33 : decode cX0_shapeOf 33 = .ok (.invokevirtual 92, 3) := by decide +kernel
theorem dX0_shapeOf_36 : decode cX0_shapeOf 36 = .ok (.ifCond .eq 9, 3) := by decide +kernel
theorem dX0_shapeOf_39 : decode cX0_shapeOf 39 = .ok (.iload 5, 2) := by decide +kernel
theorem dX0_shapeOf_41 : decode cX0_shapeOf 41 = .ok (.iconst 2, 1) := by decide +kernel
theorem dX0_shapeOf_42 : decode cX0_shapeOf 42 = .ok (.ior, 1) := by decide +kernel
theorem dX0_shapeOf_43 : decode cX0_shapeOf 43 = .ok (.istore 5, 2) := by decide +kernel
theorem dX0_shapeOf_45 : decode cX0_shapeOf 45 = .ok (.iload 4, 2) := by decide +kernel
theorem dX0_shapeOf_47 : decode cX0_shapeOf 47 = .ok (.ifCond .ne 22, 3) := by decide +kernel
theorem dX0_shapeOf_50 : decode cX0_shapeOf 50 = .ok (.aload_n 1, 1) := by decide +kernel
theorem dX0_shapeOf_51 : decode cX0_shapeOf 51 = .ok (.iload_n 2, 1) := by decide +kernel
theorem dX0_shapeOf_52 : decode cX0_shapeOf 52 = .ok (.aload_n 0, 1) := by decide +kernel
theorem dX0_shapeOf_53 : decode cX0_shapeOf 53 = .ok (.getfield 41, 3) := by decide +kernel
theorem dX0_shapeOf_56 : decode cX0_shapeOf 56 = .ok (.invokevirtual 95, 3) := by decide +kernel
theorem dX0_shapeOf_59 : decode cX0_shapeOf 59 = .ok (.ifCond .eq 10, 3) := by decide +kernel
theorem dX0_shapeOf_62 : decode cX0_shapeOf 62 = .ok (.iload 5, 2) := by decide +kernel
theorem dX0_shapeOf_64 : decode cX0_shapeOf 64 = .ok (.iconst 4, 1) := by decide +kernel
theorem dX0_shapeOf_65 : decode cX0_shapeOf 65 = .ok (.ior, 1) := by decide +kernel
theorem dX0_shapeOf_66 : decode cX0_shapeOf 66 = .ok (.goto 5, 3) := by decide +kernel
theorem dX0_shapeOf_69 : decode cX0_shapeOf 69 = .ok (.iload 5, 2) := by decide +kernel
theorem dX0_shapeOf_71 : decode cX0_shapeOf 71 = .ok (.ireturn, 1) := by decide +kernel
noncomputable def fX0_shapeOf_45  (t_plies : Int32) (p1_cells : Nat → Int32) (v2 : Int32) (v4 : Int32) (v5 : Int32) : Option (Int32) := (if v4 = 0 then (fX1_isRowStraight p1_cells v2 t_plies).bind fun r12 => (if r12 = 0 then some v5 else some (v5 ||| 4)) else some v5)
noncomputable def fX0_shapeOf_39  (t_plies : Int32) (p1_cells : Nat → Int32) (v2 : Int32) (v4 : Int32) (v5 : Int32) : Option (Int32) := fX0_shapeOf_45 t_plies p1_cells v2 v4 (v5 ||| 2)
noncomputable def fX0_shapeOf_16  (t_plies : Int32) (p1_cells : Nat → Int32) (v2 : Int32) (v3 : Int32) (v4 : Int32) (z0 : Int32) : Option (Int32) := (if z0 = 0 then (if v3 = 0 then (fX1_isRowFlat p1_cells v2 t_plies).bind fun r7 => (if r7 = 0 then fX0_shapeOf_45 t_plies p1_cells v2 v4 z0 else fX0_shapeOf_39 t_plies p1_cells v2 v4 z0) else fX0_shapeOf_45 t_plies p1_cells v2 v4 z0) else fX0_shapeOf_39 t_plies p1_cells v2 v4 z0)
noncomputable def fX0_shapeOf  (t_plies : Int32) (p1_cells : Nat → Int32) (v2 : Int32) (v3 : Int32) (v4 : Int32) : Option (Int32) := (fX3_isMirrored v2 t_plies).bind fun r1 => (if r1 = 0 then fX0_shapeOf_16 t_plies p1_cells v2 v3 v4 0 else fX0_shapeOf_16 t_plies p1_cells v2 v3 v4 1)
set_option maxHeartbeats 4000000 in
set_option maxRecDepth 100000 in
theorem ctX0_shapeOf (l : Launch) (g : GT) (a_t : Nat → Nat) (a_p1 : Nat → Nat) (b_t_rows : Nat) (b_t_seen : Nat) (t_size : Int32) (t_ready : Int32) (t_pool : Int32) (t_plies : Int32) (t_room : Int32) (p1_told : Int32) (p1_lines : Int32) (p1_kinds : Int32) (p1_acts : Int32) (p1_cells : Nat → Int32) (v2 : Int32) (v3 : Int32) (v4 : Int32) (o : Int32) (h : fX0_shapeOf t_plies p1_cells v2 v3 v4 = some o) : Met l yX0_shapeOf (Cond.code yX0_shapeOf cX0_shapeOf 6 (some .int) :: Tw) ⟨3, 0, 0, 76⟩ (va_Pc [.ref ((a_t 0)), .ref ((a_p1 0)), .int v2, .int v3, .int v4] (roB g [((a_t 0), .inr (0, [.ref b_t_rows, .ref b_t_seen, .int t_size, .int t_ready, .int t_pool, .int t_plies, .int t_room])), ((a_p1 0), .inr (1, [.ref (a_p1 1), .ref (a_p1 2), .ref (a_p1 3), .ref (a_p1 4), .ref (a_p1 5), .int p1_told, .int p1_lines, .int p1_kinds, .int p1_acts])), ((a_p1 2), .inl (g.2.2.1 0, 144, .inl p1_cells))])) (vp_Si (fun x => x = o)) 0 0 (fun _ => False) := by
  refine ro_meti (by decide) (Nat.le_of_ble_eq_true rfl) (lv0 := [(0, .ref ((a_t 0))), (1, .ref ((a_p1 0))), (2, .int v2), (3, .int v3), (4, .int v4)]) rfl ?_
  intro p e s m args below meth c ls Q cx hret hG hP hl
  have hx := cx.1
  have hb := cx.2.1
  have hG0 := hG
  have w45 : ∀ (v2 : Int32) (v4 : Int32) (v5 : Int32) (ls : Array Slot), lv_has ls 6 [(0, .ref ((a_t 0))), (1, .ref ((a_p1 0))), (2, .int v2), (4, .int v4), (5, .int v5)] → fX0_shapeOf_45  t_plies p1_cells v2 v4 v5 = some o → W p l e ⟨3, 0, 0, 76⟩ s m args below meth c s.heap [] 0 0 Q (F0 m 45 ls []) := by
    intro v2 v4 v5 ls hl h
    unfold fX0_shapeOf_45 at h
    refine lv_iload hx hb dX0_shapeOf_45 (lv_at hl 3 rfl) ?_
    refine lv_if_ne (tgt := 69) hx hb dX0_shapeOf_47 (by decide) (fun c11 => ?_) (fun c11 => ?_)
    · have h := itn c11 h
      refine lv_iload hx hb dX0_shapeOf_69 (lv_at hl 4 rfl) ?_
      exact hret _ _ _ dX0_shapeOf_71 (Option.some.inj h)
    · have h := itp c11 h
      refine lv_aload_n hx hb dX0_shapeOf_50 rfl (lv_at hl 1 rfl) ?_
      refine lv_iload_n hx hb dX0_shapeOf_51 rfl (lv_at hl 2 rfl) ?_
      refine lv_aload_n hx hb dX0_shapeOf_52 rfl (lv_at hl 0 rfl) ?_
      refine xa_get (C := RX0) (T := TX0) (N := 7) cx hG hP 0 rfl rfl uX0 5 (by decide) lf_X0_41 rfl dX0_shapeOf_53 ?_
      obtain ⟨r12, hr13, h⟩ := bnd h
      refine ro_z (runVN (As := [.int v2, .int t_plies]) (rest := []) hG cx hl.1 (ctX1_isRowStraight l g a_p1 p1_told p1_lines p1_kinds p1_acts p1_cells v2 t_plies r12 hr13) kmX1_isRowStraight kvX1_isRowStraight nm_60 ⟨rfl, rfl⟩ ⟨Nat.le_of_ble_eq_true rfl, Nat.le_of_ble_eq_true rfl⟩ (roV (q0 := 1) (ci := 1) hG (hP.sub [1, 2] rfl) hP rfl rfl) rfl rfl (Nat.le_of_ble_eq_true rfl) dX0_shapeOf_56 ⟨Nat.le_of_ble_eq_true rfl, Nat.le_of_ble_eq_true rfl⟩) (fun hz14 => ?_)
      refine lv_if_eq (tgt := 69) hx hb dX0_shapeOf_59 (by decide) (fun c15 => ?_) (fun c15 => ?_)
      · have h := itp c15 h
        refine lv_iload hx hb dX0_shapeOf_69 (lv_at hl 4 rfl) ?_
        exact hret _ _ _ dX0_shapeOf_71 (Option.some.inj h)
      · have h := itn c15 h
        refine lv_iload hx hb dX0_shapeOf_62 (lv_at hl 4 rfl) ?_
        refine lv_iconst (v := 4) hx hb dX0_shapeOf_64 (by decide) ?_
        refine lv_ior hx hb dX0_shapeOf_65 ?_
        refine lv_goto (tgt := 71) hx hb dX0_shapeOf_66 (by decide) ?_
        exact hret _ _ _ dX0_shapeOf_71 (Option.some.inj h)
  have w39 : ∀ (v2 : Int32) (v4 : Int32) (v5 : Int32) (ls : Array Slot), lv_has ls 6 [(0, .ref ((a_t 0))), (1, .ref ((a_p1 0))), (2, .int v2), (4, .int v4), (5, .int v5)] → fX0_shapeOf_39  t_plies p1_cells v2 v4 v5 = some o → W p l e ⟨3, 0, 0, 76⟩ s m args below meth c s.heap [] 0 0 Q (F0 m 39 ls []) := by
    intro v2 v4 v5 ls hl h
    unfold fX0_shapeOf_39 at h
    refine lv_iload hx hb dX0_shapeOf_39 (lv_at hl 4 rfl) ?_
    refine lv_iconst (v := 2) hx hb dX0_shapeOf_41 (by decide) ?_
    refine lv_ior hx hb dX0_shapeOf_42 ?_
    refine lv_istore (lv' := [(5, .int (v5 ||| 2)), (0, .ref ((a_t 0))), (1, .ref ((a_p1 0))), (2, .int v2), (4, .int v4)]) hx hb dX0_shapeOf_43 hl (by decide) rfl (fun ls hl => ?_)
    exact w45 v2 v4 (v5 ||| 2) _ (lv_sub hl [1, 2, 3, 4, 0] rfl) h
  have w16 : ∀ (v2 : Int32) (v3 : Int32) (v4 : Int32) (z0 : Int32) (ls : Array Slot), lv_has ls 6 [(0, .ref ((a_t 0))), (1, .ref ((a_p1 0))), (2, .int v2), (3, .int v3), (4, .int v4)] → fX0_shapeOf_16  t_plies p1_cells v2 v3 v4 z0 = some o → W p l e ⟨3, 0, 0, 76⟩ s m args below meth c s.heap [] 0 0 Q (F0 m 16 ls [.int z0]) := by
    intro v2 v3 v4 z0 ls hl h
    unfold fX0_shapeOf_16 at h
    refine lv_istore (lv' := [(5, .int z0), (0, .ref ((a_t 0))), (1, .ref ((a_p1 0))), (2, .int v2), (3, .int v3), (4, .int v4)]) hx hb dX0_shapeOf_16 hl (by decide) rfl (fun ls hl => ?_)
    refine lv_iload hx hb dX0_shapeOf_18 (lv_at hl 0 rfl) ?_
    refine lv_if_ne (tgt := 39) hx hb dX0_shapeOf_20 (by decide) (fun c5 => ?_) (fun c5 => ?_)
    · have h := itn c5 h
      exact w39 v2 v4 z0 _ (lv_sub hl [1, 2, 3, 5, 0] rfl) h
    · have h := itp c5 h
      refine lv_iload_n hx hb dX0_shapeOf_23 rfl (lv_at hl 4 rfl) ?_
      refine lv_if_ne (tgt := 45) hx hb dX0_shapeOf_24 (by decide) (fun c6 => ?_) (fun c6 => ?_)
      · have h := itn c6 h
        exact w45 v2 v4 z0 _ (lv_sub hl [1, 2, 3, 5, 0] rfl) h
      · have h := itp c6 h
        refine lv_aload_n hx hb dX0_shapeOf_27 rfl (lv_at hl 2 rfl) ?_
        refine lv_iload_n hx hb dX0_shapeOf_28 rfl (lv_at hl 3 rfl) ?_
        refine lv_aload_n hx hb dX0_shapeOf_29 rfl (lv_at hl 1 rfl) ?_
        refine xa_get (C := RX0) (T := TX0) (N := 7) cx hG hP 0 rfl rfl uX0 5 (by decide) lf_X0_41 rfl dX0_shapeOf_30 ?_
        obtain ⟨r7, hr8, h⟩ := bnd h
        refine ro_z (runVN (As := [.int v2, .int t_plies]) (rest := []) hG cx hl.1 (ctX1_isRowFlat l g a_p1 p1_told p1_lines p1_kinds p1_acts p1_cells v2 t_plies r7 hr8) kmX1_isRowFlat kvX1_isRowFlat nm_59 ⟨rfl, rfl⟩ ⟨Nat.le_of_ble_eq_true rfl, Nat.le_of_ble_eq_true rfl⟩ (roV (q0 := 1) (ci := 1) hG (hP.sub [1, 2] rfl) hP rfl rfl) rfl rfl (Nat.le_of_ble_eq_true rfl) dX0_shapeOf_33 ⟨Nat.le_of_ble_eq_true rfl, Nat.le_of_ble_eq_true rfl⟩) (fun hz9 => ?_)
        refine lv_if_eq (tgt := 45) hx hb dX0_shapeOf_36 (by decide) (fun c10 => ?_) (fun c10 => ?_)
        · have h := itp c10 h
          exact w45 v2 v4 z0 _ (lv_sub hl [1, 2, 3, 5, 0] rfl) h
        · have h := itn c10 h
          exact w39 v2 v4 z0 _ (lv_sub hl [1, 2, 3, 5, 0] rfl) h
  unfold fX0_shapeOf at h
  refine lv_iload_n hx hb dX0_shapeOf_0 rfl (lv_at hl 2 rfl) ?_
  refine lv_aload_n hx hb dX0_shapeOf_1 rfl (lv_at hl 0 rfl) ?_
  refine xa_get (C := RX0) (T := TX0) (N := 7) cx hG hP 0 rfl rfl uX0 5 (by decide) lf_X0_41 rfl dX0_shapeOf_2 ?_
  obtain ⟨r1, hr2, h⟩ := bnd h
  refine ro_z (runSN (As := [.int v2, .int t_plies]) (rest := []) hG cx hl.1 (ctX3_isMirrored l g v2 t_plies r1 hr2) kmX3_isMirrored ksX3_isMirrored nm_58 ⟨rfl, rfl⟩ ⟨Nat.le_of_ble_eq_true rfl, Nat.le_of_ble_eq_true rfl⟩ (roS hG (hP.sub [] rfl)) rfl rfl (Nat.le_of_ble_eq_true rfl) dX0_shapeOf_5 ⟨Nat.le_of_ble_eq_true rfl, Nat.le_of_ble_eq_true rfl⟩) (fun hz3 => ?_)
  refine lv_if_eq (tgt := 15) hx hb dX0_shapeOf_8 (by decide) (fun c4 => ?_) (fun c4 => ?_)
  · have h := itp c4 h
    refine lv_iconst (v := 0) hx hb dX0_shapeOf_15 (by decide) ?_
    exact w16 v2 v3 v4 0 _ (lv_sub hl [0, 1, 2, 3, 4] rfl) h
  · have h := itn c4 h
    refine lv_iconst (v := 1) hx hb dX0_shapeOf_11 (by decide) ?_
    refine lv_goto (tgt := 16) hx hb dX0_shapeOf_12 (by decide) ?_
    exact w16 v2 v3 v4 1 _ (lv_sub hl [0, 1, 2, 3, 4] rfl) h
-- X0_store
theorem dX0_store_0 : decode cX0_store 0 = .ok (.aload_n 0, 1) := by decide +kernel
theorem dX0_store_1 : decode cX0_store 1 = .ok (.getfield 49, 3) := by decide +kernel
theorem dX0_store_4 : decode cX0_store 4 = .ok (.ifCond .lt 46, 3) := by decide +kernel
theorem dX0_store_7 : decode cX0_store 7 = .ok (.aload_n 0, 1) := by decide +kernel
theorem dX0_store_8 : decode cX0_store 8 = .ok (.getfield 49, 3) := by decide +kernel
theorem dX0_store_11 : decode cX0_store 11 = .ok (.aload_n 0, 1) := by decide +kernel
theorem dX0_store_12 : decode cX0_store 12 = .ok (.getfield 9, 3) := by decide +kernel
theorem dX0_store_15 : decode cX0_store 15 = .ok (.arraylength, 1) := by decide +kernel
theorem dX0_store_16 : decode cX0_store 16 = .ok (.if_icmp .ge 34, 3) := by decide +kernel
theorem dX0_store_19 : decode cX0_store 19 = .ok (.aload_n 0, 1) := by decide +kernel
theorem dX0_store_20 : decode cX0_store 20 = .ok (.getfield 9, 3) := by decide +kernel
theorem dX0_store_23 : decode cX0_store 23 = .ok (.aload_n 0, 1) := by decide +kernel
theorem dX0_store_24 : decode cX0_store 24 = .ok (.getfield 49, 3) := by decide +kernel
theorem dX0_store_27 : decode cX0_store 27 = .ok (.iload_n 1, 1) := by decide +kernel
theorem dX0_store_28 : decode cX0_store 28 = .ok (.i2l, 1) := by decide +kernel
theorem dX0_store_29 : decode cX0_store 29 = .ok (.ldc2_w 98, 3) := by decide +kernel
theorem dX0_store_32 : decode cX0_store 32 = .ok (.land, 1) := by decide +kernel
theorem dX0_store_33 : decode cX0_store 33 = .ok (.iload_n 2, 1) := by decide +kernel
theorem dX0_store_34 : decode cX0_store 34 = .ok (.i2l, 1) := by decide +kernel
theorem dX0_store_35 : decode cX0_store 35 = .ok (.bipush 32, 2) := by decide +kernel
theorem dX0_store_37 : decode cX0_store 37 = .ok (.lshl, 1) := by decide +kernel
theorem dX0_store_38 : decode cX0_store 38 = .ok (.lor, 1) := by decide +kernel
theorem dX0_store_39 : decode cX0_store 39 = .ok (.lastore, 1) := by decide +kernel
theorem dX0_store_40 : decode cX0_store 40 = .ok (.aload_n 0, 1) := by decide +kernel
theorem dX0_store_41 : decode cX0_store 41 = .ok (.dup, 1) := by decide +kernel
theorem dX0_store_42 : decode cX0_store 42 = .ok (.getfield 49, 3) := by decide +kernel
theorem dX0_store_45 : decode cX0_store 45 = .ok (.iconst 1, 1) := by decide +kernel
theorem dX0_store_46 : decode cX0_store 46 = .ok (.iadd, 1) := by decide +kernel
theorem dX0_store_47 : decode cX0_store 47 = .ok (.putfield 49, 3) := by decide +kernel
theorem dX0_store_50 : decode cX0_store 50 = .ok (.return_, 1) := by decide +kernel
noncomputable def fX0_store  (t_rows_n : Nat) (t_rows : Nat → Int64) (t_size : Int32) (v1 : Int32) (v2 : Int32) : Option ((Nat → Int64) × Int32) := (if t_size < 0 then some (t_rows, t_size) else (if (nI t_rows_n) ≤ t_size then some (t_rows, t_size) else chk t_rows_n t_size (some (vp_updL t_rows t_size.toNatClampNeg ((v1.toInt64 &&& 4294967295) ||| (lshl v2.toInt64 32)), t_size + 1))))
set_option maxHeartbeats 4000000 in
set_option maxRecDepth 100000 in
theorem ctX0_store (l : Launch) (g : GT) (sz : Nat) (a_t : Nat → Nat) (b_t_rows : Nat) (b_t_seen : Nat) (t_size : Int32) (t_ready : Int32) (t_pool : Int32) (t_plies : Int32) (t_room : Int32) (t_rows_n : Nat) (t_rows : Nat → Int64) (v1 : Int32) (v2 : Int32) (o_t_rows : Nat → Int64) (o_t_size : Int32) (h : fX0_store t_rows_n t_rows t_size v1 v2 = some (o_t_rows, o_t_size)) : Met l yX0_store (Cond.code yX0_store cX0_store 3 none :: Tw) ⟨0, 0, 0, 0⟩ (va_Pc [.ref ((a_t 0)), .int v1, .int v2] (rwB g [((a_t 0), .inr (0, [.ref b_t_rows, .ref b_t_seen, .int t_size, .int t_ready, .int t_pool, .int t_plies, .int t_room])), (b_t_rows, .inl (g.2.2.1 1, t_rows_n, .inr (.inl t_rows)))] sz)) (va_Qv (fun (_ : Nat → Nat) => True) (fun u => rwE g (va_A [((a_t 0), .inr (0, [.ref b_t_rows, .ref b_t_seen, .int t_size, .int t_ready, .int t_pool, .int t_plies, .int t_room])), (b_t_rows, .inl (g.2.2.1 1, t_rows_n, .inr (.inl t_rows)))] sz) [((a_t 0), .inr (0, [.ref b_t_rows, .ref b_t_seen, .int o_t_size, .int t_ready, .int t_pool, .int t_plies, .int t_room])), (b_t_rows, .inl (g.2.2.1 1, t_rows_n, .inr (.inl o_t_rows)))]) (va_A [((a_t 0), .inr (0, [.ref b_t_rows, .ref b_t_seen, .int t_size, .int t_ready, .int t_pool, .int t_plies, .int t_room])), (b_t_rows, .inl (g.2.2.1 1, t_rows_n, .inr (.inl t_rows)))] sz)) 0 0 (va_A [((a_t 0), .inr (0, [.ref b_t_rows, .ref b_t_seen, .int t_size, .int t_ready, .int t_pool, .int t_plies, .int t_room])), (b_t_rows, .inl (g.2.2.1 1, t_rows_n, .inr (.inl t_rows)))] sz) := by
  refine rw_metv (by decide) (Nat.le_of_ble_eq_true rfl) (lv0 := [(0, .ref ((a_t 0))), (1, .int v1), (2, .int v2)]) rfl ?_
  intro p e s m args below meth c ls Q A cx hret hG hAb hb0 hA hP hD hl
  have hx := cx.1
  have hb := cx.2.1
  have hG0 := hG
  have hGk : ∀ {H : Heap} {locs : List Loc}, va_S A s.heap H locs → GE g s H := fun hS => hG0.keptS hAb hS
  have hSb : ∀ {H : Heap} {locs : List Loc}, va_S A s.heap H locs → va_S (fun a => g.1 ≤ a) s.heap H locs := fun hS => ⟨hS.1, fun q h1 h2 => hS.2.1 q h1 (fun z => h2 (hAb q z)), fun l hl => hAb _ (hS.2.2 l hl)⟩
  have hS : va_S A s.heap s.heap [] := va_S.rf
  have hrt : ∀ (u : Nat → Nat) (pc : Nat) (ls : Array Slot) (x_t_rows : Nat → Int64) (x_t_size : Int32) (H : Heap) (locs : List Loc), decode cX0_store pc = .ok (.return_, 1) → some (x_t_rows, x_t_size) = some (o_t_rows, o_t_size) → va_P g.2.1 vwCl [((a_t 0), .inr (0, [.ref b_t_rows, .ref b_t_seen, .int x_t_size, .int t_ready, .int t_pool, .int t_plies, .int t_room])), (b_t_rows, .inl (g.2.2.1 1, t_rows_n, .inr (.inl x_t_rows)))] H → va_D A [((a_t 0), .inr (0, [.ref b_t_rows, .ref b_t_seen, .int x_t_size, .int t_ready, .int t_pool, .int t_plies, .int t_room])), (b_t_rows, .inl (g.2.2.1 1, t_rows_n, .inr (.inl x_t_rows)))] → va_S A s.heap H locs → W p l e ⟨0, 0, 0, 0⟩ s m args below meth c H locs 0 0 Q (F0 m pc ls []) := by
    intro u pc ls x_t_rows x_t_size H locs hd h hP hD hS
    cases h
    exact hret u _ _ _ _ hd hP hD hS
  unfold fX0_store at h
  refine lv_aload_n hx hb dX0_store_0 rfl (lv_at hl 0 rfl) ?_
  refine xa_get (C := RX0) (T := TX0) (N := 7) cx hG hP 0 rfl rfl uX0 2 (by decide) lf_X0_49 rfl dX0_store_1 ?_
  refine lv_if_lt (tgt := 50) hx hb dX0_store_4 (by decide) (fun c1 => ?_) (fun c1 => ?_)
  · have h := itp c1 h
    exact hrt (fun _ => 0) _ _ t_rows t_size _ _ dX0_store_50 h (hP.sub [0, 1] rfl) (hD.sub [0, 1] (by decide) rfl) hS
  · have h := itn c1 h
    refine lv_aload_n hx hb dX0_store_7 rfl (lv_at hl 0 rfl) ?_
    refine xa_get (C := RX0) (T := TX0) (N := 7) cx hG hP 0 rfl rfl uX0 2 (by decide) lf_X0_49 rfl dX0_store_8 ?_
    refine lv_aload_n hx hb dX0_store_11 rfl (lv_at hl 0 rfl) ?_
    refine xa_get (C := RX0) (T := TX0) (N := 7) cx hG hP 0 rfl rfl uX0 0 (by decide) lf_X0_9 rfl dX0_store_12 ?_
    refine xa_len cx hG hP 1 rfl 1 rfl (v := nI t_rows_n) rfl dX0_store_15 ?_
    refine lv_icmp_ge (tgt := 50) hx hb dX0_store_16 (by decide) (fun c2 => ?_) (fun c2 => ?_)
    · have h := itp c2 h
      exact hrt (fun _ => 0) _ _ t_rows t_size _ _ dX0_store_50 h (hP.sub [0, 1] rfl) (hD.sub [0, 1] (by decide) rfl) hS
    · have h := itn c2 h
      refine lv_aload_n hx hb dX0_store_19 rfl (lv_at hl 0 rfl) ?_
      refine xa_get (C := RX0) (T := TX0) (N := 7) cx hG hP 0 rfl rfl uX0 0 (by decide) lf_X0_9 rfl dX0_store_20 ?_
      refine lv_aload_n hx hb dX0_store_23 rfl (lv_at hl 0 rfl) ?_
      refine xa_get (C := RX0) (T := TX0) (N := 7) cx hG hP 0 rfl rfl uX0 2 (by decide) lf_X0_49 rfl dX0_store_24 ?_
      refine lv_iload_n hx hb dX0_store_27 rfl (lv_at hl 1 rfl) ?_
      refine lv_i2l (v := v1.toInt64) hx hb dX0_store_28 rfl ?_
      refine lv_ldc2 (own := RX0) (v := 4294967295) hx hb cx.2.2.2.1 (cx.2.2.2.2 _ cl_X0_98) dX0_store_29 ?_
      refine lv_land hx hb dX0_store_32 ?_
      refine lv_iload_n hx hb dX0_store_33 rfl (lv_at hl 2 rfl) ?_
      refine lv_i2l (v := v2.toInt64) hx hb dX0_store_34 rfl ?_
      refine lv_bipush (v := 32) hx hb dX0_store_35 (by decide) ?_
      refine lv_lshl (v := lshl v2.toInt64 32) hx hb dX0_store_37 rfl ?_
      refine lv_lor hx hb dX0_store_38 ?_
      obtain ⟨hi3, h⟩ := chk_out h
      refine xw_last (ws' := [((a_t 0), .inr (0, [.ref b_t_rows, .ref b_t_seen, .int t_size, .int t_ready, .int t_pool, .int t_plies, .int t_room])), (b_t_rows, .inl (g.2.2.1 1, t_rows_n, .inr (.inl (vp_updL t_rows t_size.toNatClampNeg ((v1.toInt64 &&& 4294967295) ||| (lshl v2.toInt64 32))))))]) (k := t_size.toNatClampNeg) cx hG hP hD hS 1 rfl hi3 rfl rfl dX0_store_39 (fun H locs hP hD hS => ?_)
      have hG := hGk hS
      refine lv_aload_n hx hb dX0_store_40 rfl (lv_at hl 0 rfl) ?_
      refine lv_dup hx hb dX0_store_41 rfl ?_
      refine xa_get (C := RX0) (T := TX0) (N := 7) cx hG hP 0 rfl rfl uX0 2 (by decide) lf_X0_49 rfl dX0_store_42 ?_
      refine lv_iconst (v := 1) hx hb dX0_store_45 (by decide) ?_
      refine lv_iadd hx hb dX0_store_46 ?_
      refine xw_put (C := RX0) (T := TX0) (N := 7) (ty := .int) (v := .int (t_size + 1)) (ws' := [((a_t 0), .inr (0, [.ref b_t_rows, .ref b_t_seen, .int (t_size + 1), .int t_ready, .int t_pool, .int t_plies, .int t_room])), (b_t_rows, .inl (g.2.2.1 1, t_rows_n, .inr (.inl (vp_updL t_rows t_size.toNatClampNeg ((v1.toInt64 &&& 4294967295) ||| (lshl v2.toInt64 32))))))]) cx hG hP hD hS 0 rfl rfl uX0 tyX0 tyX0_ok nmX0 2 (by decide) lf_X0_49 rfl (by decide +kernel) rfl rfl (Nat.le_of_ble_eq_true rfl) rfl dX0_store_47 (fun H locs hP hD hS => ?_)
      have hG := hGk hS
      exact hrt (fun _ => 0) _ _ (vp_updL t_rows t_size.toNatClampNeg ((v1.toInt64 &&& 4294967295) ||| (lshl v2.toInt64 32))) (t_size + 1) _ _ dX0_store_50 h (hP.sub [0, 1] rfl) (hD.sub [0, 1] (by decide) rfl) hS
-- X0_lay
theorem dX0_lay_0 : decode cX0_lay 0 = .ok (.iload_n 2, 1) := by decide +kernel
theorem dX0_lay_1 : decode cX0_lay 1 = .ok (.aload_n 0, 1) := by decide +kernel
theorem dX0_lay_2 : decode cX0_lay 2 = .ok (.getfield 41, 3) := by decide +kernel
theorem dX0_lay_5 : decode cX0_lay 5 = .ok (.if_icmp .ge 9, 3) := by decide +kernel
theorem dX0_lay_8 : decode cX0_lay 8 = .ok (.iload_n 2, 1) := by decide +kernel
theorem dX0_lay_9 : decode cX0_lay 9 = .ok (.bipush 8, 2) := by decide +kernel
theorem dX0_lay_11 : decode cX0_lay 11 = .ok (.if_icmp .lt 19, 3) := by decide +kernel
theorem dX0_lay_14 : decode cX0_lay 14 = .ok (.aload_n 0, 1) := by decide +kernel
theorem dX0_lay_15 : decode cX0_lay 15 = .ok (.iload_n 3, 1) := by decide +kernel
theorem dX0_lay_16 : decode cX0_lay 16 = .ok (.aload_n 0, 1) := by decide +kernel
theorem dX0_lay_17 : decode cX0_lay 17 = .ok (.aload_n 1, 1) := by decide +kernel
theorem dX0_lay_18 : decode cX0_lay 18 = .ok (.iload_n 3, 1) := by decide +kernel
theorem dX0_lay_19 : decode cX0_lay 19 = .ok (.iload 6, 2) := by decide +kernel
theorem dX0_lay_21 : decode cX0_lay 21 = .ok (.iload 7, 2) := by decide +kernel
theorem dX0_lay_23 : decode cX0_lay 23 = .ok (.invokevirtual 67, 3) := by decide +kernel
theorem dX0_lay_26 : decode cX0_lay 26 = .ok (.invokevirtual 71, 3) := by decide +kernel
theorem dX0_lay_29 : decode cX0_lay 29 = .ok (.return_, 1) := by decide +kernel
theorem dX0_lay_30 : decode cX0_lay 30 = .ok (.iload_n 2, 1) := by decide +kernel
theorem dX0_lay_31 : decode cX0_lay 31 = .ok (.ifCond .le 13, 3) := by decide +kernel
theorem dX0_lay_34 : decode cX0_lay 34 = .ok (.iload_n 3, 1) := by decide +kernel
theorem dX0_lay_35 : decode cX0_lay 35 = .ok (.iload_n 2, 1) := by decide +kernel
theorem dX0_lay_36 : decode cX0_lay 36 = .ok (.iconst 1, 1) := by decide +kernel
theorem dX0_lay_37 : decode cX0_lay 37 = .ok (.isub, 1) := by decide +kernel
theorem dX0_lay_38 : decode cX0_lay 38 = .ok (.invokestatic 75, 3) := by decide +kernel
theorem dX0_lay_41 : decode cX0_lay 41 = .ok (.goto 4, 3) := by decide +kernel
theorem dX0_lay_44 : decode cX0_lay 44 = .ok (.iconst (-1), 1) := by decide +kernel
theorem dX0_lay_45 : decode cX0_lay 45 = .ok (.istore 8, 2) := by decide +kernel
theorem dX0_lay_47 : decode cX0_lay 47 = .ok (.iload_n 2, 1) := by decide +kernel
theorem dX0_lay_48 : decode cX0_lay 48 = .ok (.aload_n 0, 1) := by decide +kernel
theorem dX0_lay_49 : decode cX0_lay 49 = .ok (.getfield 41, 3) := by decide +kernel
theorem dX0_lay_52 : decode cX0_lay 52 = .ok (.invokestatic 78, 3) := by decide +kernel
theorem dX0_lay_55 : decode cX0_lay 55 = .ok (.istore 9, 2) := by decide +kernel
theorem dX0_lay_57 : decode cX0_lay 57 = .ok (.iload 9, 2) := by decide +kernel
theorem dX0_lay_59 : decode cX0_lay 59 = .ok (.invokestatic 81, 3) := by decide +kernel
theorem dX0_lay_62 : decode cX0_lay 62 = .ok (.istore 10, 2) := by decide +kernel
theorem dX0_lay_64 : decode cX0_lay 64 = .ok (.iconst (-1), 1) := by decide +kernel
theorem dX0_lay_65 : decode cX0_lay 65 = .ok (.istore 11, 2) := by decide +kernel
theorem dX0_lay_67 : decode cX0_lay 67 = .ok (.iconst 0, 1) := by decide +kernel
theorem dX0_lay_68 : decode cX0_lay 68 = .ok (.istore 12, 2) := by decide +kernel
theorem dX0_lay_70 : decode cX0_lay 70 = .ok (.iload 12, 2) := by decide +kernel
theorem dX0_lay_72 : decode cX0_lay 72 = .ok (.aload_n 0, 1) := by decide +kernel
theorem dX0_lay_73 : decode cX0_lay 73 = .ok (.getfield 41, 3) := by decide +kernel
theorem dX0_lay_76 : decode cX0_lay 76 = .ok (.if_icmp .ge 137, 3) := by decide +kernel
theorem dX0_lay_79 : decode cX0_lay 79 = .ok (.iload 5, 2) := by decide +kernel
theorem dX0_lay_81 : decode cX0_lay 81 = .ok (.iload 12, 2) := by decide +kernel
theorem dX0_lay_83 : decode cX0_lay 83 = .ok (.ishr, 1) := by decide +kernel
theorem dX0_lay_84 : decode cX0_lay 84 = .ok (.iconst 1, 1) := by decide +kernel
theorem dX0_lay_85 : decode cX0_lay 85 = .ok (.iand, 1) := by decide +kernel
theorem dX0_lay_86 : decode cX0_lay 86 = .ok (.ifCond .eq 6, 3) := by decide +kernel
theorem dX0_lay_89 : decode cX0_lay 89 = .ok (.goto 118, 3) := by decide +kernel
theorem dX0_lay_92 : decode cX0_lay 92 = .ok (.aload_n 0, 1) := by decide +kernel
theorem dX0_lay_93 : decode cX0_lay 93 = .ok (.getfield 37, 3) := by decide +kernel
theorem dX0_lay_96 : decode cX0_lay 96 = .ok (.iconst 4, 1) := by decide +kernel
theorem dX0_lay_97 : decode cX0_lay 97 = .ok (.iload 12, 2) := by decide +kernel
theorem dX0_lay_99 : decode cX0_lay 99 = .ok (.imul, 1) := by decide +kernel
theorem dX0_lay_100 : decode cX0_lay 100 = .ok (.iushr, 1) := by decide +kernel
theorem dX0_lay_101 : decode cX0_lay 101 = .ok (.bipush 15, 2) := by decide +kernel
theorem dX0_lay_103 : decode cX0_lay 103 = .ok (.iand, 1) := by decide +kernel
theorem dX0_lay_104 : decode cX0_lay 104 = .ok (.istore 13, 2) := by decide +kernel
theorem dX0_lay_106 : decode cX0_lay 106 = .ok (.iload 13, 2) := by decide +kernel
theorem dX0_lay_108 : decode cX0_lay 108 = .ok (.iconst 3, 1) := by decide +kernel
theorem dX0_lay_109 : decode cX0_lay 109 = .ok (.iand, 1) := by decide +kernel
theorem dX0_lay_110 : decode cX0_lay 110 = .ok (.iload 8, 2) := by decide +kernel
theorem dX0_lay_112 : decode cX0_lay 112 = .ok (.if_icmp .ne 10, 3) := by decide +kernel
theorem dX0_lay_115 : decode cX0_lay 115 = .ok (.iload 4, 2) := by decide +kernel
theorem dX0_lay_117 : decode cX0_lay 117 = .ok (.iconst 1, 1) := by decide +kernel
theorem dX0_lay_118 : decode cX0_lay 118 = .ok (.iadd, 1) := by decide +kernel
theorem dX0_lay_119 : decode cX0_lay 119 = .ok (.goto 4, 3) := by decide +kernel
theorem dX0_lay_122 : decode cX0_lay 122 = .ok (.iconst 1, 1) := by decide +kernel
theorem dX0_lay_123 : decode cX0_lay 123 = .ok (.istore 14, 2) := by decide +kernel
theorem dX0_lay_125 : decode cX0_lay 125 = .ok (.iload 13, 2) := by decide +kernel
theorem dX0_lay_127 : decode cX0_lay 127 = .ok (.iload 11, 2) := by decide +kernel
theorem dX0_lay_129 : decode cX0_lay 129 = .ok (.if_icmp .eq 78, 3) := by decide +kernel
theorem dX0_lay_132 : decode cX0_lay 132 = .ok (.iload 14, 2) := by decide +kernel
theorem dX0_lay_134 : decode cX0_lay 134 = .ok (.aload_n 0, 1) := by decide +kernel
theorem dX0_lay_135 : decode cX0_lay 135 = .ok (.getfield 43, 3) := by decide +kernel
theorem dX0_lay_138 : decode cX0_lay 138 = .ok (.if_icmp .le 6, 3) := by decide +kernel
theorem dX0_lay_141 : decode cX0_lay 141 = .ok (.goto 66, 3) := by decide +kernel
theorem dX0_lay_144 : decode cX0_lay 144 = .ok (.iload 13, 2) := by decide +kernel
theorem dX0_lay_146 : decode cX0_lay 146 = .ok (.istore 11, 2) := by decide +kernel
theorem dX0_lay_148 : decode cX0_lay 148 = .ok (.iload 6, 2) := by decide +kernel
theorem dX0_lay_150 : decode cX0_lay 150 = .ok (.iload 9, 2) := by decide +kernel
theorem dX0_lay_152 : decode cX0_lay 152 = .ok (.aload_n 1, 1) := by decide +kernel
theorem dX0_lay_153 : decode cX0_lay 153 = .ok (.iload 13, 2) := by decide +kernel
theorem dX0_lay_155 : decode cX0_lay 155 = .ok (.iconst 0, 1) := by decide +kernel
theorem dX0_lay_156 : decode cX0_lay 156 = .ok (.invokevirtual 85, 3) := by decide +kernel
theorem dX0_lay_159 : decode cX0_lay 159 = .ok (.imul, 1) := by decide +kernel
theorem dX0_lay_160 : decode cX0_lay 160 = .ok (.iadd, 1) := by decide +kernel
theorem dX0_lay_161 : decode cX0_lay 161 = .ok (.istore 15, 2) := by decide +kernel
theorem dX0_lay_163 : decode cX0_lay 163 = .ok (.iload 7, 2) := by decide +kernel
theorem dX0_lay_165 : decode cX0_lay 165 = .ok (.iload 10, 2) := by decide +kernel
theorem dX0_lay_167 : decode cX0_lay 167 = .ok (.aload_n 1, 1) := by decide +kernel
theorem dX0_lay_168 : decode cX0_lay 168 = .ok (.iload 13, 2) := by decide +kernel
theorem dX0_lay_170 : decode cX0_lay 170 = .ok (.iconst 2, 1) := by decide +kernel
theorem dX0_lay_171 : decode cX0_lay 171 = .ok (.invokevirtual 85, 3) := by decide +kernel
theorem dX0_lay_174 : decode cX0_lay 174 = .ok (.imul, 1) := by decide +kernel
theorem dX0_lay_175 : decode cX0_lay 175 = .ok (.iadd, 1) := by decide +kernel
theorem dX0_lay_176 : decode cX0_lay 176 = .ok (.istore 16, 2) := by decide +kernel
theorem dX0_lay_178 : decode cX0_lay 178 = .ok (.aload_n 0, 1) := by decide +kernel
theorem dX0_lay_179 : decode cX0_lay 179 = .ok (.aload_n 1, 1) := by decide +kernel
theorem dX0_lay_180 : decode cX0_lay 180 = .ok (.iload_n 2, 1) := by decide +kernel
theorem dX0_lay_181 : decode cX0_lay 181 = .ok (.iconst 1, 1) := by decide +kernel
theorem dX0_lay_182 : decode cX0_lay 182 = .ok (.iadd, 1) := by decide +kernel
theorem dX0_lay_183 : decode cX0_lay 183 = .ok (.iload_n 3, 1) := by decide +kernel
theorem dX0_lay_184 : decode cX0_lay 184 = .ok (.iload 13, 2) := by decide +kernel
theorem dX0_lay_186 : decode cX0_lay 186 = .ok (.iconst 4, 1) := by decide +kernel
theorem dX0_lay_187 : decode cX0_lay 187 = .ok (.iload_n 2, 1) := by decide +kernel
theorem dX0_lay_188 : decode cX0_lay 188 = .ok (.imul, 1) := by decide +kernel
theorem dX0_lay_189 : decode cX0_lay 189 = .ok (.ishl, 1) := by decide +kernel
theorem dX0_lay_190 : decode cX0_lay 190 = .ok (.ior, 1) := by decide +kernel
theorem dX0_lay_191 : decode cX0_lay 191 = .ok (.iload 14, 2) := by decide +kernel
theorem dX0_lay_193 : decode cX0_lay 193 = .ok (.iload 5, 2) := by decide +kernel
theorem dX0_lay_195 : decode cX0_lay 195 = .ok (.iconst 1, 1) := by decide +kernel
theorem dX0_lay_196 : decode cX0_lay 196 = .ok (.iload 12, 2) := by decide +kernel
theorem dX0_lay_198 : decode cX0_lay 198 = .ok (.ishl, 1) := by decide +kernel
theorem dX0_lay_199 : decode cX0_lay 199 = .ok (.ior, 1) := by decide +kernel
theorem dX0_lay_200 : decode cX0_lay 200 = .ok (.iload 15, 2) := by decide +kernel
theorem dX0_lay_202 : decode cX0_lay 202 = .ok (.iload 16, 2) := by decide +kernel
theorem dX0_lay_204 : decode cX0_lay 204 = .ok (.invokevirtual 55, 3) := by decide +kernel
theorem dX0_lay_207 : decode cX0_lay 207 = .ok (.iinc 12 1, 3) := by decide +kernel
theorem dX0_lay_210 : decode cX0_lay 210 = .ok (.goto (-140), 3) := by decide +kernel
theorem dX0_lay_213 : decode cX0_lay 213 = .ok (.return_, 1) := by decide +kernel
noncomputable def fX0_lay_14 (rc : Nat → (Nat → Int64) → Int32 → Int32 → Int32 → Int32 → (Nat → Int32) → Int32 → Int32 → Int32 → Int32 → Int32 → Int32 → Option ((Nat → Int64) × Int32))  (t_rows_n : Nat) (t_rows : Nat → Int64) (t_size : Int32) (t_plies : Int32) (p1_cells : Nat → Int32) (v3 : Int32) (v6 : Int32) (v7 : Int32) : Option ((Nat → Int64) × Int32) := (fX0_shapeOf t_plies p1_cells v3 v6 v7).bind fun r4 => ob2 (fX0_store t_rows_n t_rows t_size v3 r4) fun w7 w8 => some (w7, w8)
noncomputable def fX0_lay_207 (rc : Nat → (Nat → Int64) → Int32 → Int32 → Int32 → Int32 → (Nat → Int32) → Int32 → Int32 → Int32 → Int32 → Int32 → Int32 → Option ((Nat → Int64) × Int32)) (k70 : Nat → (Nat → Int64) → Int32 → Int32 → Int32 → Int32 → (Nat → Int32) → Int32 → Int32 → Int32 → Int32 → Int32 → Int32 → Int32 → Int32 → Int32 → Int32 → Int32 → Option ((Nat → Int64) × Int32)) (t_rows_n : Nat) (t_rows : Nat → Int64) (t_size : Int32) (t_pool : Int32) (t_plies : Int32) (t_room : Int32) (p1_cells : Nat → Int32) (v2 : Int32) (v3 : Int32) (v4 : Int32) (v5 : Int32) (v6 : Int32) (v7 : Int32) (v8 : Int32) (v9 : Int32) (v10 : Int32) (v11 : Int32) (v12 : Int32) : Option ((Nat → Int64) × Int32) := k70 t_rows_n t_rows t_size t_pool t_plies t_room p1_cells v2 v3 v4 v5 v6 v7 v8 v9 v10 v11 (v12 + 1)
noncomputable def fX0_lay_123 (rc : Nat → (Nat → Int64) → Int32 → Int32 → Int32 → Int32 → (Nat → Int32) → Int32 → Int32 → Int32 → Int32 → Int32 → Int32 → Option ((Nat → Int64) × Int32)) (k70 : Nat → (Nat → Int64) → Int32 → Int32 → Int32 → Int32 → (Nat → Int32) → Int32 → Int32 → Int32 → Int32 → Int32 → Int32 → Int32 → Int32 → Int32 → Int32 → Int32 → Option ((Nat → Int64) × Int32)) (t_rows_n : Nat) (t_rows : Nat → Int64) (t_size : Int32) (t_pool : Int32) (t_plies : Int32) (t_room : Int32) (p1_cells : Nat → Int32) (v2 : Int32) (v3 : Int32) (v4 : Int32) (v5 : Int32) (v6 : Int32) (v7 : Int32) (v8 : Int32) (v9 : Int32) (v10 : Int32) (v11 : Int32) (v12 : Int32) (v13 : Int32) (z0 : Int32) : Option ((Nat → Int64) × Int32) := (if v13 = v11 then fX0_lay_207 rc k70 t_rows_n t_rows t_size t_pool t_plies t_room p1_cells v2 v3 v4 v5 v6 v7 v8 v9 v10 v11 v12 else (if z0 ≤ t_room then (fX1_cellAt p1_cells v13 0).bind fun r15 => (fX1_cellAt p1_cells v13 2).bind fun r17 => ob2 (rc t_rows_n t_rows t_size t_pool t_plies t_room p1_cells (v2 + 1) (v3 ||| (v13 <<< ((4 * v2) &&& 31))) z0 (v5 ||| (1 <<< (v12 &&& 31))) (v6 + (v9 * r15)) (v7 + (v10 * r17))) fun w20 w21 => fX0_lay_207 rc k70 t_rows_n w20 w21 t_pool t_plies t_room p1_cells v2 v3 v4 v5 v6 v7 v8 v9 v10 v13 v12 else fX0_lay_207 rc k70 t_rows_n t_rows t_size t_pool t_plies t_room p1_cells v2 v3 v4 v5 v6 v7 v8 v9 v10 v11 v12))
noncomputable def fX0_lay_70 (rc : Nat → (Nat → Int64) → Int32 → Int32 → Int32 → Int32 → (Nat → Int32) → Int32 → Int32 → Int32 → Int32 → Int32 → Int32 → Option ((Nat → Int64) × Int32))  : Nat → Nat → (Nat → Int64) → Int32 → Int32 → Int32 → Int32 → (Nat → Int32) → Int32 → Int32 → Int32 → Int32 → Int32 → Int32 → Int32 → Int32 → Int32 → Int32 → Int32 → Option ((Nat → Int64) × Int32)
  | 0, _, _, _, _, _, _, _, _, _, _, _, _, _, _, _, _, _, _ => none
  | n + 1, t_rows_n, t_rows, t_size, t_pool, t_plies, t_room, p1_cells, v2, v3, v4, v5, v6, v7, v8, v9, v10, v11, v12 => (if t_plies ≤ v12 then some (t_rows, t_size) else (if ((v5 >>> (v12 &&& 31)) &&& 1) = 0 then (if (((iushr t_pool (4 * v12)) &&& 15) &&& 3) = v8 then fX0_lay_123 rc (fX0_lay_70 rc n) t_rows_n t_rows t_size t_pool t_plies t_room p1_cells v2 v3 v4 v5 v6 v7 v8 v9 v10 v11 v12 ((iushr t_pool (4 * v12)) &&& 15) (v4 + 1) else fX0_lay_123 rc (fX0_lay_70 rc n) t_rows_n t_rows t_size t_pool t_plies t_room p1_cells v2 v3 v4 v5 v6 v7 v8 v9 v10 v11 v12 ((iushr t_pool (4 * v12)) &&& 15) 1) else fX0_lay_207 rc (fX0_lay_70 rc n) t_rows_n t_rows t_size t_pool t_plies t_room p1_cells v2 v3 v4 v5 v6 v7 v8 v9 v10 v11 v12))
theorem fX0_lay_70_z (rc : Nat → (Nat → Int64) → Int32 → Int32 → Int32 → Int32 → (Nat → Int32) → Int32 → Int32 → Int32 → Int32 → Int32 → Int32 → Option ((Nat → Int64) × Int32))  (t_rows_n : Nat) (t_rows : Nat → Int64) (t_size : Int32) (t_pool : Int32) (t_plies : Int32) (t_room : Int32) (p1_cells : Nat → Int32) (v2 : Int32) (v3 : Int32) (v4 : Int32) (v5 : Int32) (v6 : Int32) (v7 : Int32) (v8 : Int32) (v9 : Int32) (v10 : Int32) (v11 : Int32) (v12 : Int32) : fX0_lay_70 rc  0 t_rows_n t_rows t_size t_pool t_plies t_room p1_cells v2 v3 v4 v5 v6 v7 v8 v9 v10 v11 v12 = none := rfl
theorem fX0_lay_70_s (rc : Nat → (Nat → Int64) → Int32 → Int32 → Int32 → Int32 → (Nat → Int32) → Int32 → Int32 → Int32 → Int32 → Int32 → Int32 → Option ((Nat → Int64) × Int32))  (n : Nat) (t_rows_n : Nat) (t_rows : Nat → Int64) (t_size : Int32) (t_pool : Int32) (t_plies : Int32) (t_room : Int32) (p1_cells : Nat → Int32) (v2 : Int32) (v3 : Int32) (v4 : Int32) (v5 : Int32) (v6 : Int32) (v7 : Int32) (v8 : Int32) (v9 : Int32) (v10 : Int32) (v11 : Int32) (v12 : Int32) : fX0_lay_70 rc  (n + 1) t_rows_n t_rows t_size t_pool t_plies t_room p1_cells v2 v3 v4 v5 v6 v7 v8 v9 v10 v11 v12 = (if t_plies ≤ v12 then some (t_rows, t_size) else (if ((v5 >>> (v12 &&& 31)) &&& 1) = 0 then (if (((iushr t_pool (4 * v12)) &&& 15) &&& 3) = v8 then fX0_lay_123 rc (fX0_lay_70 rc n) t_rows_n t_rows t_size t_pool t_plies t_room p1_cells v2 v3 v4 v5 v6 v7 v8 v9 v10 v11 v12 ((iushr t_pool (4 * v12)) &&& 15) (v4 + 1) else fX0_lay_123 rc (fX0_lay_70 rc n) t_rows_n t_rows t_size t_pool t_plies t_room p1_cells v2 v3 v4 v5 v6 v7 v8 v9 v10 v11 v12 ((iushr t_pool (4 * v12)) &&& 15) 1) else fX0_lay_207 rc (fX0_lay_70 rc n) t_rows_n t_rows t_size t_pool t_plies t_room p1_cells v2 v3 v4 v5 v6 v7 v8 v9 v10 v11 v12)) := rfl
noncomputable def fX0_lay_45 (rc : Nat → (Nat → Int64) → Int32 → Int32 → Int32 → Int32 → (Nat → Int32) → Int32 → Int32 → Int32 → Int32 → Int32 → Int32 → Option ((Nat → Int64) × Int32))  (t_rows_n : Nat) (t_rows : Nat → Int64) (t_size : Int32) (t_pool : Int32) (t_plies : Int32) (t_room : Int32) (p1_cells : Nat → Int32) (v2 : Int32) (v3 : Int32) (v4 : Int32) (v5 : Int32) (v6 : Int32) (v7 : Int32) (z0 : Int32) : Option ((Nat → Int64) × Int32) := fX0_lay_70 rc FU t_rows_n t_rows t_size t_pool t_plies t_room p1_cells v2 v3 v4 v5 v6 v7 z0 (fX3_farOf v2 t_plies) (fX3_thickOf (fX3_farOf v2 t_plies)) (-1) 0
noncomputable def fX0_lay_e (rc : Nat → (Nat → Int64) → Int32 → Int32 → Int32 → Int32 → (Nat → Int32) → Int32 → Int32 → Int32 → Int32 → Int32 → Int32 → Option ((Nat → Int64) × Int32))  (t_rows_n : Nat) (t_rows : Nat → Int64) (t_size : Int32) (t_pool : Int32) (t_plies : Int32) (t_room : Int32) (p1_cells : Nat → Int32) (v2 : Int32) (v3 : Int32) (v4 : Int32) (v5 : Int32) (v6 : Int32) (v7 : Int32) : Option ((Nat → Int64) × Int32) := (if t_plies ≤ v2 then fX0_lay_14 rc t_rows_n t_rows t_size t_plies p1_cells v3 v6 v7 else (if v2 < 8 then (if v2 ≤ 0 then fX0_lay_45 rc t_rows_n t_rows t_size t_pool t_plies t_room p1_cells v2 v3 v4 v5 v6 v7 (-1) else fX0_lay_45 rc t_rows_n t_rows t_size t_pool t_plies t_room p1_cells v2 v3 v4 v5 v6 v7 (fX3_angleAt v3 (v2 - 1))) else fX0_lay_14 rc t_rows_n t_rows t_size t_plies p1_cells v3 v6 v7))
noncomputable def fX0_lay : Nat → Nat → (Nat → Int64) → Int32 → Int32 → Int32 → Int32 → (Nat → Int32) → Int32 → Int32 → Int32 → Int32 → Int32 → Int32 → Option ((Nat → Int64) × Int32)
  | 0, _, _, _, _, _, _, _, _, _, _, _, _, _ => none
  | d + 1, t_rows_n, t_rows, t_size, t_pool, t_plies, t_room, p1_cells, v2, v3, v4, v5, v6, v7 => fX0_lay_e (fX0_lay d) t_rows_n t_rows t_size t_pool t_plies t_room p1_cells v2 v3 v4 v5 v6 v7
theorem fX0_lay_z (t_rows_n : Nat) (t_rows : Nat → Int64) (t_size : Int32) (t_pool : Int32) (t_plies : Int32) (t_room : Int32) (p1_cells : Nat → Int32) (v2 : Int32) (v3 : Int32) (v4 : Int32) (v5 : Int32) (v6 : Int32) (v7 : Int32) : fX0_lay 0 t_rows_n t_rows t_size t_pool t_plies t_room p1_cells v2 v3 v4 v5 v6 v7 = none := rfl
theorem fX0_lay_s (d : Nat) (t_rows_n : Nat) (t_rows : Nat → Int64) (t_size : Int32) (t_pool : Int32) (t_plies : Int32) (t_room : Int32) (p1_cells : Nat → Int32) (v2 : Int32) (v3 : Int32) (v4 : Int32) (v5 : Int32) (v6 : Int32) (v7 : Int32) : fX0_lay (d + 1) t_rows_n t_rows t_size t_pool t_plies t_room p1_cells v2 v3 v4 v5 v6 v7 = fX0_lay_e (fX0_lay d) t_rows_n t_rows t_size t_pool t_plies t_room p1_cells v2 v3 v4 v5 v6 v7 := rfl
set_option maxHeartbeats 4000000 in
set_option maxRecDepth 100000 in
theorem ctX0_lay (l : Launch) (g : GT) : ∀ (d : Nat) (sz : Nat) (a_t : Nat → Nat) (a_p1 : Nat → Nat) (b_t_rows : Nat) (b_t_seen : Nat) (t_size : Int32) (t_ready : Int32) (t_pool : Int32) (t_plies : Int32) (t_room : Int32) (t_rows_n : Nat) (t_rows : Nat → Int64) (p1_told : Int32) (p1_lines : Int32) (p1_kinds : Int32) (p1_acts : Int32) (p1_cells : Nat → Int32) (v2 : Int32) (v3 : Int32) (v4 : Int32) (v5 : Int32) (v6 : Int32) (v7 : Int32) (o_t_rows : Nat → Int64) (o_t_size : Int32) (h : fX0_lay d t_rows_n t_rows t_size t_pool t_plies t_room p1_cells v2 v3 v4 v5 v6 v7 = some (o_t_rows, o_t_size)), Met l yX0_lay (Cond.code yX0_lay cX0_lay 17 none :: Tw) ⟨4 + d, 0, 0, 101 + d * 36⟩ (va_Pc [.ref ((a_t 0)), .ref ((a_p1 0)), .int v2, .int v3, .int v4, .int v5, .int v6, .int v7] (rwB g [((a_t 0), .inr (0, [.ref b_t_rows, .ref b_t_seen, .int t_size, .int t_ready, .int t_pool, .int t_plies, .int t_room])), (b_t_rows, .inl (g.2.2.1 1, t_rows_n, .inr (.inl t_rows))), ((a_p1 0), .inr (1, [.ref (a_p1 1), .ref (a_p1 2), .ref (a_p1 3), .ref (a_p1 4), .ref (a_p1 5), .int p1_told, .int p1_lines, .int p1_kinds, .int p1_acts])), ((a_p1 2), .inl (g.2.2.1 0, 144, .inl p1_cells))] sz)) (va_Qv (fun (_ : Nat → Nat) => True) (fun u => rwE g (va_A [((a_t 0), .inr (0, [.ref b_t_rows, .ref b_t_seen, .int t_size, .int t_ready, .int t_pool, .int t_plies, .int t_room])), (b_t_rows, .inl (g.2.2.1 1, t_rows_n, .inr (.inl t_rows))), ((a_p1 0), .inr (1, [.ref (a_p1 1), .ref (a_p1 2), .ref (a_p1 3), .ref (a_p1 4), .ref (a_p1 5), .int p1_told, .int p1_lines, .int p1_kinds, .int p1_acts])), ((a_p1 2), .inl (g.2.2.1 0, 144, .inl p1_cells))] sz) [((a_t 0), .inr (0, [.ref b_t_rows, .ref b_t_seen, .int o_t_size, .int t_ready, .int t_pool, .int t_plies, .int t_room])), (b_t_rows, .inl (g.2.2.1 1, t_rows_n, .inr (.inl o_t_rows))), ((a_p1 0), .inr (1, [.ref (a_p1 1), .ref (a_p1 2), .ref (a_p1 3), .ref (a_p1 4), .ref (a_p1 5), .int p1_told, .int p1_lines, .int p1_kinds, .int p1_acts])), ((a_p1 2), .inl (g.2.2.1 0, 144, .inl p1_cells))]) (va_A [((a_t 0), .inr (0, [.ref b_t_rows, .ref b_t_seen, .int t_size, .int t_ready, .int t_pool, .int t_plies, .int t_room])), (b_t_rows, .inl (g.2.2.1 1, t_rows_n, .inr (.inl t_rows))), ((a_p1 0), .inr (1, [.ref (a_p1 1), .ref (a_p1 2), .ref (a_p1 3), .ref (a_p1 4), .ref (a_p1 5), .int p1_told, .int p1_lines, .int p1_kinds, .int p1_acts])), ((a_p1 2), .inl (g.2.2.1 0, 144, .inl p1_cells))] sz)) 0 0 (va_A [((a_t 0), .inr (0, [.ref b_t_rows, .ref b_t_seen, .int t_size, .int t_ready, .int t_pool, .int t_plies, .int t_room])), (b_t_rows, .inl (g.2.2.1 1, t_rows_n, .inr (.inl t_rows))), ((a_p1 0), .inr (1, [.ref (a_p1 1), .ref (a_p1 2), .ref (a_p1 3), .ref (a_p1 4), .ref (a_p1 5), .int p1_told, .int p1_lines, .int p1_kinds, .int p1_acts])), ((a_p1 2), .inl (g.2.2.1 0, 144, .inl p1_cells))] sz) := by
  intro d
  induction d with
  | zero => intro sz a_t a_p1 b_t_rows b_t_seen t_size t_ready t_pool t_plies t_room t_rows_n t_rows p1_told p1_lines p1_kinds p1_acts p1_cells v2 v3 v4 v5 v6 v7 o_t_rows o_t_size h; cases (fX0_lay_z t_rows_n t_rows t_size t_pool t_plies t_room p1_cells v2 v3 v4 v5 v6 v7).symm.trans h
  | succ d IH =>
  intro sz a_t a_p1 b_t_rows b_t_seen t_size t_ready t_pool t_plies t_room t_rows_n t_rows p1_told p1_lines p1_kinds p1_acts p1_cells v2 v3 v4 v5 v6 v7 o_t_rows o_t_size h
  have h := (fX0_lay_s d t_rows_n t_rows t_size t_pool t_plies t_room p1_cells v2 v3 v4 v5 v6 v7).symm.trans h
  obtain ⟨rc, hrc⟩ : ∃ rc, rc = fX0_lay d := ⟨_, rfl⟩
  rw [← hrc] at h IH
  refine rw_metv (by decide) (Nat.le_of_ble_eq_true rfl) (lv0 := [(0, .ref ((a_t 0))), (1, .ref ((a_p1 0))), (2, .int v2), (3, .int v3), (4, .int v4), (5, .int v5), (6, .int v6), (7, .int v7)]) rfl ?_
  intro p e s m args below meth c ls Q A cx hret hG hAb hb0 hA hP hD hl
  have hx := cx.1
  have hb := cx.2.1
  have hG0 := hG
  have hGk : ∀ {H : Heap} {locs : List Loc}, va_S A s.heap H locs → GE g s H := fun hS => hG0.keptS hAb hS
  have hSb : ∀ {H : Heap} {locs : List Loc}, va_S A s.heap H locs → va_S (fun a => g.1 ≤ a) s.heap H locs := fun hS => ⟨hS.1, fun q h1 h2 => hS.2.1 q h1 (fun z => h2 (hAb q z)), fun l hl => hAb _ (hS.2.2 l hl)⟩
  have hS : va_S A s.heap s.heap [] := va_S.rf
  have hrt : ∀ (u : Nat → Nat) (pc : Nat) (ls : Array Slot) (x_t_rows : Nat → Int64) (x_t_size : Int32) (H : Heap) (locs : List Loc), decode cX0_lay pc = .ok (.return_, 1) → some (x_t_rows, x_t_size) = some (o_t_rows, o_t_size) → va_P g.2.1 vwCl [((a_t 0), .inr (0, [.ref b_t_rows, .ref b_t_seen, .int x_t_size, .int t_ready, .int t_pool, .int t_plies, .int t_room])), (b_t_rows, .inl (g.2.2.1 1, t_rows_n, .inr (.inl x_t_rows))), ((a_p1 0), .inr (1, [.ref (a_p1 1), .ref (a_p1 2), .ref (a_p1 3), .ref (a_p1 4), .ref (a_p1 5), .int p1_told, .int p1_lines, .int p1_kinds, .int p1_acts])), ((a_p1 2), .inl (g.2.2.1 0, 144, .inl p1_cells))] H → va_D A [((a_t 0), .inr (0, [.ref b_t_rows, .ref b_t_seen, .int x_t_size, .int t_ready, .int t_pool, .int t_plies, .int t_room])), (b_t_rows, .inl (g.2.2.1 1, t_rows_n, .inr (.inl x_t_rows))), ((a_p1 0), .inr (1, [.ref (a_p1 1), .ref (a_p1 2), .ref (a_p1 3), .ref (a_p1 4), .ref (a_p1 5), .int p1_told, .int p1_lines, .int p1_kinds, .int p1_acts])), ((a_p1 2), .inl (g.2.2.1 0, 144, .inl p1_cells))] → va_S A s.heap H locs → W p l e ⟨4 + (d + 1), 0, 0, 101 + (d + 1) * 36⟩ s m args below meth c H locs 0 0 Q (F0 m pc ls []) := by
    intro u pc ls x_t_rows x_t_size H locs hd h hP hD hS
    cases h
    exact hret u _ _ _ _ hd hP hD hS
  have w14 : ∀ (t_rows : Nat → Int64) (t_size : Int32) (v3 : Int32) (v6 : Int32) (v7 : Int32) (H : Heap) (locs : List Loc), va_P g.2.1 vwCl [((a_t 0), .inr (0, [.ref b_t_rows, .ref b_t_seen, .int t_size, .int t_ready, .int t_pool, .int t_plies, .int t_room])), (b_t_rows, .inl (g.2.2.1 1, t_rows_n, .inr (.inl t_rows))), ((a_p1 0), .inr (1, [.ref (a_p1 1), .ref (a_p1 2), .ref (a_p1 3), .ref (a_p1 4), .ref (a_p1 5), .int p1_told, .int p1_lines, .int p1_kinds, .int p1_acts])), ((a_p1 2), .inl (g.2.2.1 0, 144, .inl p1_cells))] H → va_D A [((a_t 0), .inr (0, [.ref b_t_rows, .ref b_t_seen, .int t_size, .int t_ready, .int t_pool, .int t_plies, .int t_room])), (b_t_rows, .inl (g.2.2.1 1, t_rows_n, .inr (.inl t_rows))), ((a_p1 0), .inr (1, [.ref (a_p1 1), .ref (a_p1 2), .ref (a_p1 3), .ref (a_p1 4), .ref (a_p1 5), .int p1_told, .int p1_lines, .int p1_kinds, .int p1_acts])), ((a_p1 2), .inl (g.2.2.1 0, 144, .inl p1_cells))] → va_S A s.heap H locs → ∀ (ls : Array Slot), lv_has ls 17 [(0, .ref ((a_t 0))), (1, .ref ((a_p1 0))), (3, .int v3), (6, .int v6), (7, .int v7)] → fX0_lay_14 rc  t_rows_n t_rows t_size t_plies p1_cells v3 v6 v7 = some (o_t_rows, o_t_size) → W p l e ⟨4 + (d + 1), 0, 0, 101 + (d + 1) * 36⟩ s m args below meth c H locs 0 0 Q (F0 m 14 ls []) := by
    intro t_rows t_size v3 v6 v7 H locs hP hD hS ls hl h
    unfold fX0_lay_14 at h
    have hG := hGk hS
    refine lv_aload_n hx hb dX0_lay_14 rfl (lv_at hl 0 rfl) ?_
    refine lv_iload_n hx hb dX0_lay_15 rfl (lv_at hl 2 rfl) ?_
    refine lv_aload_n hx hb dX0_lay_16 rfl (lv_at hl 0 rfl) ?_
    refine lv_aload_n hx hb dX0_lay_17 rfl (lv_at hl 1 rfl) ?_
    refine lv_iload_n hx hb dX0_lay_18 rfl (lv_at hl 2 rfl) ?_
    refine lv_iload hx hb dX0_lay_19 (lv_at hl 3 rfl) ?_
    refine lv_iload hx hb dX0_lay_21 (lv_at hl 4 rfl) ?_
    obtain ⟨r4, hr5, h⟩ := bnd h
    refine ro_i (runV (As := [.ref ((a_p1 0)), .int v3, .int v6, .int v7]) (rest := [.int v3, .ref ((a_t 0))]) cx hl.1 (ctX0_shapeOf l g a_t a_p1 b_t_rows b_t_seen t_size t_ready t_pool t_plies t_room p1_told p1_lines p1_kinds p1_acts p1_cells v3 v6 v7 r4 hr5) kmX0_shapeOf kvX0_shapeOf lm_X0_67 ⟨rfl, rfl⟩ (roomOk_mk (by omega) (by omega)) (roV (q0 := 0) (ci := 0) hG (hP.sub [0, 2, 3] rfl) hP rfl rfl) rfl rfl (Nat.le_of_ble_eq_true rfl) dX0_lay_23 ⟨Nat.le_of_ble_eq_true rfl, Nat.le_of_ble_eq_true rfl⟩) ?_
    obtain ⟨w7, w8, hr6, h⟩ := ob2_out h
    refine rw_v (WN := fun u9 => [((a_p1 0), .inr (1, [.ref (a_p1 1), .ref (a_p1 2), .ref (a_p1 3), .ref (a_p1 4), .ref (a_p1 5), .int p1_told, .int p1_lines, .int p1_kinds, .int p1_acts])), ((a_p1 2), .inl (g.2.2.1 0, 144, .inl p1_cells)), ((a_t 0), .inr (0, [.ref b_t_rows, .ref b_t_seen, .int w8, .int t_ready, .int t_pool, .int t_plies, .int t_room])), (b_t_rows, .inl (g.2.2.1 1, t_rows_n, .inr (.inl w7)))]) (wr := [((a_p1 0), .inr (1, [.ref (a_p1 1), .ref (a_p1 2), .ref (a_p1 3), .ref (a_p1 4), .ref (a_p1 5), .int p1_told, .int p1_lines, .int p1_kinds, .int p1_acts])), ((a_p1 2), .inl (g.2.2.1 0, 144, .inl p1_cells))]) (runV (As := [.int v3, .int r4]) (rest := []) cx hl.1 (ctX0_store l g H.size a_t b_t_rows b_t_seen t_size t_ready t_pool t_plies t_room t_rows_n t_rows v3 r4 w7 w8 hr6) kmX0_store kvX0_store lm_X0_71 ⟨rfl, rfl⟩ (roomOk_mk (by omega) (by omega)) (rwV (q0 := 0) (ci := 0) hG (hP.sub [0, 1] rfl) (hD.sub [0, 1] (by decide) rfl) hAb hb0 hS hP rfl rfl) rfl rfl (Nat.le_of_ble_eq_true rfl) dX0_lay_26 ⟨Nat.le_of_ble_eq_true rfl, Nat.le_of_ble_eq_true rfl⟩) hP hD hS hA [0, 1] [2, 3] rfl rfl (by decide) (by decide) (fun _ => rfl) (fun u9 H locs hP hD hS => ?_)
    have hG := hGk hS
    exact hrt (fun _ => 0) _ _ w7 w8 _ _ dX0_lay_29 h (hP.sub [2, 3, 0, 1] rfl) (hD.sub [2, 3, 0, 1] (by decide) rfl) hS
  have w207 : ∀ (k70 : Nat → (Nat → Int64) → Int32 → Int32 → Int32 → Int32 → (Nat → Int32) → Int32 → Int32 → Int32 → Int32 → Int32 → Int32 → Int32 → Int32 → Int32 → Int32 → Int32 → Option ((Nat → Int64) × Int32)) (hk70 : ∀ (t_rows : Nat → Int64) (t_size : Int32) (v2 : Int32) (v3 : Int32) (v4 : Int32) (v5 : Int32) (v6 : Int32) (v7 : Int32) (v8 : Int32) (v9 : Int32) (v10 : Int32) (v11 : Int32) (v12 : Int32) (H : Heap) (locs : List Loc), va_P g.2.1 vwCl [((a_t 0), .inr (0, [.ref b_t_rows, .ref b_t_seen, .int t_size, .int t_ready, .int t_pool, .int t_plies, .int t_room])), (b_t_rows, .inl (g.2.2.1 1, t_rows_n, .inr (.inl t_rows))), ((a_p1 0), .inr (1, [.ref (a_p1 1), .ref (a_p1 2), .ref (a_p1 3), .ref (a_p1 4), .ref (a_p1 5), .int p1_told, .int p1_lines, .int p1_kinds, .int p1_acts])), ((a_p1 2), .inl (g.2.2.1 0, 144, .inl p1_cells))] H → va_D A [((a_t 0), .inr (0, [.ref b_t_rows, .ref b_t_seen, .int t_size, .int t_ready, .int t_pool, .int t_plies, .int t_room])), (b_t_rows, .inl (g.2.2.1 1, t_rows_n, .inr (.inl t_rows))), ((a_p1 0), .inr (1, [.ref (a_p1 1), .ref (a_p1 2), .ref (a_p1 3), .ref (a_p1 4), .ref (a_p1 5), .int p1_told, .int p1_lines, .int p1_kinds, .int p1_acts])), ((a_p1 2), .inl (g.2.2.1 0, 144, .inl p1_cells))] → va_S A s.heap H locs → ∀ (ls : Array Slot), lv_has ls 17 [(0, .ref ((a_t 0))), (1, .ref ((a_p1 0))), (2, .int v2), (3, .int v3), (4, .int v4), (5, .int v5), (6, .int v6), (7, .int v7), (8, .int v8), (9, .int v9), (10, .int v10), (11, .int v11), (12, .int v12)] → k70 t_rows_n t_rows t_size t_pool t_plies t_room p1_cells v2 v3 v4 v5 v6 v7 v8 v9 v10 v11 v12 = some (o_t_rows, o_t_size) → W p l e ⟨4 + (d + 1), 0, 0, 101 + (d + 1) * 36⟩ s m args below meth c H locs 0 0 Q (F0 m 70 ls [])) (t_rows : Nat → Int64) (t_size : Int32) (v2 : Int32) (v3 : Int32) (v4 : Int32) (v5 : Int32) (v6 : Int32) (v7 : Int32) (v8 : Int32) (v9 : Int32) (v10 : Int32) (v11 : Int32) (v12 : Int32) (H : Heap) (locs : List Loc), va_P g.2.1 vwCl [((a_t 0), .inr (0, [.ref b_t_rows, .ref b_t_seen, .int t_size, .int t_ready, .int t_pool, .int t_plies, .int t_room])), (b_t_rows, .inl (g.2.2.1 1, t_rows_n, .inr (.inl t_rows))), ((a_p1 0), .inr (1, [.ref (a_p1 1), .ref (a_p1 2), .ref (a_p1 3), .ref (a_p1 4), .ref (a_p1 5), .int p1_told, .int p1_lines, .int p1_kinds, .int p1_acts])), ((a_p1 2), .inl (g.2.2.1 0, 144, .inl p1_cells))] H → va_D A [((a_t 0), .inr (0, [.ref b_t_rows, .ref b_t_seen, .int t_size, .int t_ready, .int t_pool, .int t_plies, .int t_room])), (b_t_rows, .inl (g.2.2.1 1, t_rows_n, .inr (.inl t_rows))), ((a_p1 0), .inr (1, [.ref (a_p1 1), .ref (a_p1 2), .ref (a_p1 3), .ref (a_p1 4), .ref (a_p1 5), .int p1_told, .int p1_lines, .int p1_kinds, .int p1_acts])), ((a_p1 2), .inl (g.2.2.1 0, 144, .inl p1_cells))] → va_S A s.heap H locs → ∀ (ls : Array Slot), lv_has ls 17 [(0, .ref ((a_t 0))), (1, .ref ((a_p1 0))), (2, .int v2), (3, .int v3), (4, .int v4), (5, .int v5), (6, .int v6), (7, .int v7), (8, .int v8), (9, .int v9), (10, .int v10), (11, .int v11), (12, .int v12)] → fX0_lay_207 rc k70 t_rows_n t_rows t_size t_pool t_plies t_room p1_cells v2 v3 v4 v5 v6 v7 v8 v9 v10 v11 v12 = some (o_t_rows, o_t_size) → W p l e ⟨4 + (d + 1), 0, 0, 101 + (d + 1) * 36⟩ s m args below meth c H locs 0 0 Q (F0 m 207 ls []) := by
    intro k70 hk70 t_rows t_size v2 v3 v4 v5 v6 v7 v8 v9 v10 v11 v12 H locs hP hD hS ls hl h
    unfold fX0_lay_207 at h
    have hG := hGk hS
    refine lv_iinc (v := v12 + 1) (lv' := [(12, .int (v12 + 1)), (0, .ref ((a_t 0))), (1, .ref ((a_p1 0))), (2, .int v2), (3, .int v3), (4, .int v4), (5, .int v5), (6, .int v6), (7, .int v7), (8, .int v8), (9, .int v9), (10, .int v10), (11, .int v11)]) hx hb dX0_lay_207 hl (k := 12) rfl rfl (by decide) rfl (fun ls hl => ?_)
    refine lv_goto (tgt := 70) hx hb dX0_lay_210 (by decide) ?_
    exact hk70 t_rows t_size v2 v3 v4 v5 v6 v7 v8 v9 v10 v11 (v12 + 1) _ _ hP hD hS _ (lv_sub hl [1, 2, 3, 4, 5, 6, 7, 8, 9, 10, 11, 12, 0] rfl) h
  have w123 : ∀ (k70 : Nat → (Nat → Int64) → Int32 → Int32 → Int32 → Int32 → (Nat → Int32) → Int32 → Int32 → Int32 → Int32 → Int32 → Int32 → Int32 → Int32 → Int32 → Int32 → Int32 → Option ((Nat → Int64) × Int32)) (hk70 : ∀ (t_rows : Nat → Int64) (t_size : Int32) (v2 : Int32) (v3 : Int32) (v4 : Int32) (v5 : Int32) (v6 : Int32) (v7 : Int32) (v8 : Int32) (v9 : Int32) (v10 : Int32) (v11 : Int32) (v12 : Int32) (H : Heap) (locs : List Loc), va_P g.2.1 vwCl [((a_t 0), .inr (0, [.ref b_t_rows, .ref b_t_seen, .int t_size, .int t_ready, .int t_pool, .int t_plies, .int t_room])), (b_t_rows, .inl (g.2.2.1 1, t_rows_n, .inr (.inl t_rows))), ((a_p1 0), .inr (1, [.ref (a_p1 1), .ref (a_p1 2), .ref (a_p1 3), .ref (a_p1 4), .ref (a_p1 5), .int p1_told, .int p1_lines, .int p1_kinds, .int p1_acts])), ((a_p1 2), .inl (g.2.2.1 0, 144, .inl p1_cells))] H → va_D A [((a_t 0), .inr (0, [.ref b_t_rows, .ref b_t_seen, .int t_size, .int t_ready, .int t_pool, .int t_plies, .int t_room])), (b_t_rows, .inl (g.2.2.1 1, t_rows_n, .inr (.inl t_rows))), ((a_p1 0), .inr (1, [.ref (a_p1 1), .ref (a_p1 2), .ref (a_p1 3), .ref (a_p1 4), .ref (a_p1 5), .int p1_told, .int p1_lines, .int p1_kinds, .int p1_acts])), ((a_p1 2), .inl (g.2.2.1 0, 144, .inl p1_cells))] → va_S A s.heap H locs → ∀ (ls : Array Slot), lv_has ls 17 [(0, .ref ((a_t 0))), (1, .ref ((a_p1 0))), (2, .int v2), (3, .int v3), (4, .int v4), (5, .int v5), (6, .int v6), (7, .int v7), (8, .int v8), (9, .int v9), (10, .int v10), (11, .int v11), (12, .int v12)] → k70 t_rows_n t_rows t_size t_pool t_plies t_room p1_cells v2 v3 v4 v5 v6 v7 v8 v9 v10 v11 v12 = some (o_t_rows, o_t_size) → W p l e ⟨4 + (d + 1), 0, 0, 101 + (d + 1) * 36⟩ s m args below meth c H locs 0 0 Q (F0 m 70 ls [])) (t_rows : Nat → Int64) (t_size : Int32) (v2 : Int32) (v3 : Int32) (v4 : Int32) (v5 : Int32) (v6 : Int32) (v7 : Int32) (v8 : Int32) (v9 : Int32) (v10 : Int32) (v11 : Int32) (v12 : Int32) (v13 : Int32) (z0 : Int32) (H : Heap) (locs : List Loc), va_P g.2.1 vwCl [((a_t 0), .inr (0, [.ref b_t_rows, .ref b_t_seen, .int t_size, .int t_ready, .int t_pool, .int t_plies, .int t_room])), (b_t_rows, .inl (g.2.2.1 1, t_rows_n, .inr (.inl t_rows))), ((a_p1 0), .inr (1, [.ref (a_p1 1), .ref (a_p1 2), .ref (a_p1 3), .ref (a_p1 4), .ref (a_p1 5), .int p1_told, .int p1_lines, .int p1_kinds, .int p1_acts])), ((a_p1 2), .inl (g.2.2.1 0, 144, .inl p1_cells))] H → va_D A [((a_t 0), .inr (0, [.ref b_t_rows, .ref b_t_seen, .int t_size, .int t_ready, .int t_pool, .int t_plies, .int t_room])), (b_t_rows, .inl (g.2.2.1 1, t_rows_n, .inr (.inl t_rows))), ((a_p1 0), .inr (1, [.ref (a_p1 1), .ref (a_p1 2), .ref (a_p1 3), .ref (a_p1 4), .ref (a_p1 5), .int p1_told, .int p1_lines, .int p1_kinds, .int p1_acts])), ((a_p1 2), .inl (g.2.2.1 0, 144, .inl p1_cells))] → va_S A s.heap H locs → ∀ (ls : Array Slot), lv_has ls 17 [(0, .ref ((a_t 0))), (1, .ref ((a_p1 0))), (2, .int v2), (3, .int v3), (4, .int v4), (5, .int v5), (6, .int v6), (7, .int v7), (8, .int v8), (9, .int v9), (10, .int v10), (11, .int v11), (12, .int v12), (13, .int v13)] → fX0_lay_123 rc k70 t_rows_n t_rows t_size t_pool t_plies t_room p1_cells v2 v3 v4 v5 v6 v7 v8 v9 v10 v11 v12 v13 z0 = some (o_t_rows, o_t_size) → W p l e ⟨4 + (d + 1), 0, 0, 101 + (d + 1) * 36⟩ s m args below meth c H locs 0 0 Q (F0 m 123 ls [.int z0]) := by
    intro k70 hk70 t_rows t_size v2 v3 v4 v5 v6 v7 v8 v9 v10 v11 v12 v13 z0 H locs hP hD hS ls hl h
    unfold fX0_lay_123 at h
    have hG := hGk hS
    refine lv_istore (lv' := [(14, .int z0), (0, .ref ((a_t 0))), (1, .ref ((a_p1 0))), (2, .int v2), (3, .int v3), (4, .int v4), (5, .int v5), (6, .int v6), (7, .int v7), (8, .int v8), (9, .int v9), (10, .int v10), (11, .int v11), (12, .int v12), (13, .int v13)]) hx hb dX0_lay_123 hl (by decide) rfl (fun ls hl => ?_)
    refine lv_iload hx hb dX0_lay_125 (lv_at hl 14 rfl) ?_
    refine lv_iload hx hb dX0_lay_127 (lv_at hl 12 rfl) ?_
    refine lv_icmp_eq (tgt := 207) hx hb dX0_lay_129 (by decide) (fun c13 => ?_) (fun c13 => ?_)
    · have h := itp c13 h
      exact w207 _ hk70 t_rows t_size v2 v3 v4 v5 v6 v7 v8 v9 v10 v11 v12 _ _ hP hD hS _ (lv_sub hl [1, 2, 3, 4, 5, 6, 7, 8, 9, 10, 11, 12, 13] rfl) h
    · have h := itn c13 h
      refine lv_iload hx hb dX0_lay_132 (lv_at hl 0 rfl) ?_
      refine lv_aload_n hx hb dX0_lay_134 rfl (lv_at hl 1 rfl) ?_
      refine xa_get (C := RX0) (T := TX0) (N := 7) cx hG hP 0 rfl rfl uX0 6 (by decide) lf_X0_43 rfl dX0_lay_135 ?_
      refine lv_icmp_le (tgt := 144) hx hb dX0_lay_138 (by decide) (fun c14 => ?_) (fun c14 => ?_)
      · have h := itp c14 h
        refine lv_iload hx hb dX0_lay_144 (lv_at hl 14 rfl) ?_
        refine lv_istore (lv' := [(11, .int v13), (14, .int z0), (0, .ref ((a_t 0))), (1, .ref ((a_p1 0))), (2, .int v2), (3, .int v3), (4, .int v4), (5, .int v5), (6, .int v6), (7, .int v7), (8, .int v8), (9, .int v9), (10, .int v10), (12, .int v12), (13, .int v13)]) hx hb dX0_lay_146 hl (by decide) rfl (fun ls hl => ?_)
        refine lv_iload hx hb dX0_lay_148 (lv_at hl 8 rfl) ?_
        refine lv_iload hx hb dX0_lay_150 (lv_at hl 11 rfl) ?_
        refine lv_aload_n hx hb dX0_lay_152 rfl (lv_at hl 3 rfl) ?_
        refine lv_iload hx hb dX0_lay_153 (lv_at hl 14 rfl) ?_
        refine lv_iconst (v := 0) hx hb dX0_lay_155 (by decide) ?_
        obtain ⟨r15, hr16, h⟩ := bnd h
        refine ro_i (runVN (As := [.int v13, .int (0)]) (rest := [.int v9, .int v6]) hG cx hl.1 (ctX1_cellAt l g a_p1 p1_told p1_lines p1_kinds p1_acts p1_cells v13 (0) r15 hr16) kmX1_cellAt kvX1_cellAt nm_64 ⟨rfl, rfl⟩ (roomOk_mk (by omega) (by omega)) (roV (q0 := 2) (ci := 1) hG (hP.sub [2, 3] rfl) hP rfl rfl) rfl rfl (Nat.le_of_ble_eq_true rfl) dX0_lay_156 ⟨Nat.le_of_ble_eq_true rfl, Nat.le_of_ble_eq_true rfl⟩) ?_
        refine lv_imul hx hb dX0_lay_159 ?_
        refine lv_iadd hx hb dX0_lay_160 ?_
        refine lv_istore (lv' := [(15, .int (v6 + (v9 * r15))), (11, .int v13), (14, .int z0), (0, .ref ((a_t 0))), (1, .ref ((a_p1 0))), (2, .int v2), (3, .int v3), (4, .int v4), (5, .int v5), (6, .int v6), (7, .int v7), (8, .int v8), (9, .int v9), (10, .int v10), (12, .int v12), (13, .int v13)]) hx hb dX0_lay_161 hl (by decide) rfl (fun ls hl => ?_)
        refine lv_iload hx hb dX0_lay_163 (lv_at hl 10 rfl) ?_
        refine lv_iload hx hb dX0_lay_165 (lv_at hl 13 rfl) ?_
        refine lv_aload_n hx hb dX0_lay_167 rfl (lv_at hl 4 rfl) ?_
        refine lv_iload hx hb dX0_lay_168 (lv_at hl 15 rfl) ?_
        refine lv_iconst (v := 2) hx hb dX0_lay_170 (by decide) ?_
        obtain ⟨r17, hr18, h⟩ := bnd h
        refine ro_i (runVN (As := [.int v13, .int (2)]) (rest := [.int v10, .int v7]) hG cx hl.1 (ctX1_cellAt l g a_p1 p1_told p1_lines p1_kinds p1_acts p1_cells v13 (2) r17 hr18) kmX1_cellAt kvX1_cellAt nm_64 ⟨rfl, rfl⟩ (roomOk_mk (by omega) (by omega)) (roV (q0 := 2) (ci := 1) hG (hP.sub [2, 3] rfl) hP rfl rfl) rfl rfl (Nat.le_of_ble_eq_true rfl) dX0_lay_171 ⟨Nat.le_of_ble_eq_true rfl, Nat.le_of_ble_eq_true rfl⟩) ?_
        refine lv_imul hx hb dX0_lay_174 ?_
        refine lv_iadd hx hb dX0_lay_175 ?_
        refine lv_istore (lv' := [(16, .int (v7 + (v10 * r17))), (15, .int (v6 + (v9 * r15))), (11, .int v13), (14, .int z0), (0, .ref ((a_t 0))), (1, .ref ((a_p1 0))), (2, .int v2), (3, .int v3), (4, .int v4), (5, .int v5), (6, .int v6), (7, .int v7), (8, .int v8), (9, .int v9), (10, .int v10), (12, .int v12), (13, .int v13)]) hx hb dX0_lay_176 hl (by decide) rfl (fun ls hl => ?_)
        refine lv_aload_n hx hb dX0_lay_178 rfl (lv_at hl 4 rfl) ?_
        refine lv_aload_n hx hb dX0_lay_179 rfl (lv_at hl 5 rfl) ?_
        refine lv_iload_n hx hb dX0_lay_180 rfl (lv_at hl 6 rfl) ?_
        refine lv_iconst (v := 1) hx hb dX0_lay_181 (by decide) ?_
        refine lv_iadd hx hb dX0_lay_182 ?_
        refine lv_iload_n hx hb dX0_lay_183 rfl (lv_at hl 7 rfl) ?_
        refine lv_iload hx hb dX0_lay_184 (lv_at hl 16 rfl) ?_
        refine lv_iconst (v := 4) hx hb dX0_lay_186 (by decide) ?_
        refine lv_iload_n hx hb dX0_lay_187 rfl (lv_at hl 6 rfl) ?_
        refine lv_imul hx hb dX0_lay_188 ?_
        refine lv_ishl hx hb dX0_lay_189 ?_
        refine lv_ior hx hb dX0_lay_190 ?_
        refine lv_iload hx hb dX0_lay_191 (lv_at hl 3 rfl) ?_
        refine lv_iload hx hb dX0_lay_193 (lv_at hl 9 rfl) ?_
        refine lv_iconst (v := 1) hx hb dX0_lay_195 (by decide) ?_
        refine lv_iload hx hb dX0_lay_196 (lv_at hl 15 rfl) ?_
        refine lv_ishl hx hb dX0_lay_198 ?_
        refine lv_ior hx hb dX0_lay_199 ?_
        refine lv_iload hx hb dX0_lay_200 (lv_at hl 1 rfl) ?_
        refine lv_iload hx hb dX0_lay_202 (lv_at hl 0 rfl) ?_
        obtain ⟨w20, w21, hr19, h⟩ := ob2_out h
        refine rw_v (WN := fun u22 => [((a_t 0), .inr (0, [.ref b_t_rows, .ref b_t_seen, .int w21, .int t_ready, .int t_pool, .int t_plies, .int t_room])), (b_t_rows, .inl (g.2.2.1 1, t_rows_n, .inr (.inl w20))), ((a_p1 0), .inr (1, [.ref (a_p1 1), .ref (a_p1 2), .ref (a_p1 3), .ref (a_p1 4), .ref (a_p1 5), .int p1_told, .int p1_lines, .int p1_kinds, .int p1_acts])), ((a_p1 2), .inl (g.2.2.1 0, 144, .inl p1_cells))]) (wr := []) (runV (As := [.ref ((a_p1 0)), .int (v2 + 1), .int (v3 ||| (v13 <<< ((4 * v2) &&& 31))), .int z0, .int (v5 ||| (1 <<< (v12 &&& 31))), .int (v6 + (v9 * r15)), .int (v7 + (v10 * r17))]) (rest := []) cx hl.1 (IH H.size a_t a_p1 b_t_rows b_t_seen t_size t_ready t_pool t_plies t_room t_rows_n t_rows p1_told p1_lines p1_kinds p1_acts p1_cells (v2 + 1) (v3 ||| (v13 <<< ((4 * v2) &&& 31))) z0 (v5 ||| (1 <<< (v12 &&& 31))) (v6 + (v9 * r15)) (v7 + (v10 * r17)) w20 w21 hr19) kmX0_lay kvX0_lay lm_X0_55 ⟨rfl, rfl⟩ (roomOk_mk (by omega) (by omega)) (rwV (q0 := 0) (ci := 0) hG (hP.sub [0, 1, 2, 3] rfl) (hD.sub [0, 1, 2, 3] (by decide) rfl) hAb hb0 hS hP rfl rfl) rfl rfl (Nat.le_of_ble_eq_true rfl) dX0_lay_204 ⟨Nat.le_of_ble_eq_true rfl, Nat.le_of_ble_eq_true rfl⟩) hP hD hS hA [0, 1, 2, 3] [] rfl rfl (by decide) (by decide) (fun _ => rfl) (fun u22 H locs hP hD hS => ?_)
        have hG := hGk hS
        exact w207 _ hk70 w20 w21 v2 v3 v4 v5 v6 v7 v8 v9 v10 v13 v12 _ _ hP hD hS _ (lv_sub hl [4, 5, 6, 7, 8, 9, 10, 11, 12, 13, 14, 2, 15] rfl) h
      · have h := itn c14 h
        refine lv_goto (tgt := 207) hx hb dX0_lay_141 (by decide) ?_
        exact w207 _ hk70 t_rows t_size v2 v3 v4 v5 v6 v7 v8 v9 v10 v11 v12 _ _ hP hD hS _ (lv_sub hl [1, 2, 3, 4, 5, 6, 7, 8, 9, 10, 11, 12, 13] rfl) h
  have w70 : ∀ (n : Nat) (t_rows : Nat → Int64) (t_size : Int32) (v2 : Int32) (v3 : Int32) (v4 : Int32) (v5 : Int32) (v6 : Int32) (v7 : Int32) (v8 : Int32) (v9 : Int32) (v10 : Int32) (v11 : Int32) (v12 : Int32) (H : Heap) (locs : List Loc), va_P g.2.1 vwCl [((a_t 0), .inr (0, [.ref b_t_rows, .ref b_t_seen, .int t_size, .int t_ready, .int t_pool, .int t_plies, .int t_room])), (b_t_rows, .inl (g.2.2.1 1, t_rows_n, .inr (.inl t_rows))), ((a_p1 0), .inr (1, [.ref (a_p1 1), .ref (a_p1 2), .ref (a_p1 3), .ref (a_p1 4), .ref (a_p1 5), .int p1_told, .int p1_lines, .int p1_kinds, .int p1_acts])), ((a_p1 2), .inl (g.2.2.1 0, 144, .inl p1_cells))] H → va_D A [((a_t 0), .inr (0, [.ref b_t_rows, .ref b_t_seen, .int t_size, .int t_ready, .int t_pool, .int t_plies, .int t_room])), (b_t_rows, .inl (g.2.2.1 1, t_rows_n, .inr (.inl t_rows))), ((a_p1 0), .inr (1, [.ref (a_p1 1), .ref (a_p1 2), .ref (a_p1 3), .ref (a_p1 4), .ref (a_p1 5), .int p1_told, .int p1_lines, .int p1_kinds, .int p1_acts])), ((a_p1 2), .inl (g.2.2.1 0, 144, .inl p1_cells))] → va_S A s.heap H locs → ∀ (ls : Array Slot), lv_has ls 17 [(0, .ref ((a_t 0))), (1, .ref ((a_p1 0))), (2, .int v2), (3, .int v3), (4, .int v4), (5, .int v5), (6, .int v6), (7, .int v7), (8, .int v8), (9, .int v9), (10, .int v10), (11, .int v11), (12, .int v12)] → fX0_lay_70 rc  n t_rows_n t_rows t_size t_pool t_plies t_room p1_cells v2 v3 v4 v5 v6 v7 v8 v9 v10 v11 v12 = some (o_t_rows, o_t_size) → W p l e ⟨4 + (d + 1), 0, 0, 101 + (d + 1) * 36⟩ s m args below meth c H locs 0 0 Q (F0 m 70 ls []) := by
    intro n
    induction n with
    | zero => intro t_rows t_size v2 v3 v4 v5 v6 v7 v8 v9 v10 v11 v12 H locs hP hD hS ls hl h; cases (fX0_lay_70_z rc  t_rows_n t_rows t_size t_pool t_plies t_room p1_cells v2 v3 v4 v5 v6 v7 v8 v9 v10 v11 v12).symm.trans h
    | succ n ih =>
    intro t_rows t_size v2 v3 v4 v5 v6 v7 v8 v9 v10 v11 v12 H locs hP hD hS ls hl h
    have h := (fX0_lay_70_s rc  n t_rows_n t_rows t_size t_pool t_plies t_room p1_cells v2 v3 v4 v5 v6 v7 v8 v9 v10 v11 v12).symm.trans h
    have hG := hGk hS
    refine lv_iload hx hb dX0_lay_70 (lv_at hl 12 rfl) ?_
    refine lv_aload_n hx hb dX0_lay_72 rfl (lv_at hl 0 rfl) ?_
    refine xa_get (C := RX0) (T := TX0) (N := 7) cx hG hP 0 rfl rfl uX0 5 (by decide) lf_X0_41 rfl dX0_lay_73 ?_
    refine lv_icmp_ge (tgt := 213) hx hb dX0_lay_76 (by decide) (fun c10 => ?_) (fun c10 => ?_)
    · have h := itp c10 h
      exact hrt (fun _ => 0) _ _ t_rows t_size _ _ dX0_lay_213 h (hP.sub [0, 1, 2, 3] rfl) (hD.sub [0, 1, 2, 3] (by decide) rfl) hS
    · have h := itn c10 h
      refine lv_iload hx hb dX0_lay_79 (lv_at hl 5 rfl) ?_
      refine lv_iload hx hb dX0_lay_81 (lv_at hl 12 rfl) ?_
      refine lv_ishr hx hb dX0_lay_83 ?_
      refine lv_iconst (v := 1) hx hb dX0_lay_84 (by decide) ?_
      refine lv_iand hx hb dX0_lay_85 ?_
      refine lv_if_eq (tgt := 92) hx hb dX0_lay_86 (by decide) (fun c11 => ?_) (fun c11 => ?_)
      · have h := itp c11 h
        refine lv_aload_n hx hb dX0_lay_92 rfl (lv_at hl 0 rfl) ?_
        refine xa_get (C := RX0) (T := TX0) (N := 7) cx hG hP 0 rfl rfl uX0 4 (by decide) lf_X0_37 rfl dX0_lay_93 ?_
        refine lv_iconst (v := 4) hx hb dX0_lay_96 (by decide) ?_
        refine lv_iload hx hb dX0_lay_97 (lv_at hl 12 rfl) ?_
        refine lv_imul hx hb dX0_lay_99 ?_
        refine lv_iushr (v := iushr t_pool (4 * v12)) hx hb dX0_lay_100 rfl ?_
        refine lv_bipush (v := 15) hx hb dX0_lay_101 (by decide) ?_
        refine lv_iand hx hb dX0_lay_103 ?_
        refine lv_istore (lv' := [(13, .int ((iushr t_pool (4 * v12)) &&& 15)), (0, .ref ((a_t 0))), (1, .ref ((a_p1 0))), (2, .int v2), (3, .int v3), (4, .int v4), (5, .int v5), (6, .int v6), (7, .int v7), (8, .int v8), (9, .int v9), (10, .int v10), (11, .int v11), (12, .int v12)]) hx hb dX0_lay_104 hl (by decide) rfl (fun ls hl => ?_)
        refine lv_iload hx hb dX0_lay_106 (lv_at hl 0 rfl) ?_
        refine lv_iconst (v := 3) hx hb dX0_lay_108 (by decide) ?_
        refine lv_iand hx hb dX0_lay_109 ?_
        refine lv_iload hx hb dX0_lay_110 (lv_at hl 9 rfl) ?_
        refine lv_icmp_ne (tgt := 122) hx hb dX0_lay_112 (by decide) (fun c12 => ?_) (fun c12 => ?_)
        · have h := itn c12 h
          refine lv_iconst (v := 1) hx hb dX0_lay_122 (by decide) ?_
          exact w123 _ ih t_rows t_size v2 v3 v4 v5 v6 v7 v8 v9 v10 v11 v12 ((iushr t_pool (4 * v12)) &&& 15) 1 _ _ hP hD hS _ (lv_sub hl [1, 2, 3, 4, 5, 6, 7, 8, 9, 10, 11, 12, 13, 0] rfl) h
        · have h := itp c12 h
          refine lv_iload hx hb dX0_lay_115 (lv_at hl 5 rfl) ?_
          refine lv_iconst (v := 1) hx hb dX0_lay_117 (by decide) ?_
          refine lv_iadd hx hb dX0_lay_118 ?_
          refine lv_goto (tgt := 123) hx hb dX0_lay_119 (by decide) ?_
          exact w123 _ ih t_rows t_size v2 v3 v4 v5 v6 v7 v8 v9 v10 v11 v12 ((iushr t_pool (4 * v12)) &&& 15) (v4 + 1) _ _ hP hD hS _ (lv_sub hl [1, 2, 3, 4, 5, 6, 7, 8, 9, 10, 11, 12, 13, 0] rfl) h
      · have h := itn c11 h
        refine lv_goto (tgt := 207) hx hb dX0_lay_89 (by decide) ?_
        exact w207 _ ih t_rows t_size v2 v3 v4 v5 v6 v7 v8 v9 v10 v11 v12 _ _ hP hD hS _ (lv_sub hl [0, 1, 2, 3, 4, 5, 6, 7, 8, 9, 10, 11, 12] rfl) h
  have w45 : ∀ (t_rows : Nat → Int64) (t_size : Int32) (v2 : Int32) (v3 : Int32) (v4 : Int32) (v5 : Int32) (v6 : Int32) (v7 : Int32) (z0 : Int32) (H : Heap) (locs : List Loc), va_P g.2.1 vwCl [((a_t 0), .inr (0, [.ref b_t_rows, .ref b_t_seen, .int t_size, .int t_ready, .int t_pool, .int t_plies, .int t_room])), (b_t_rows, .inl (g.2.2.1 1, t_rows_n, .inr (.inl t_rows))), ((a_p1 0), .inr (1, [.ref (a_p1 1), .ref (a_p1 2), .ref (a_p1 3), .ref (a_p1 4), .ref (a_p1 5), .int p1_told, .int p1_lines, .int p1_kinds, .int p1_acts])), ((a_p1 2), .inl (g.2.2.1 0, 144, .inl p1_cells))] H → va_D A [((a_t 0), .inr (0, [.ref b_t_rows, .ref b_t_seen, .int t_size, .int t_ready, .int t_pool, .int t_plies, .int t_room])), (b_t_rows, .inl (g.2.2.1 1, t_rows_n, .inr (.inl t_rows))), ((a_p1 0), .inr (1, [.ref (a_p1 1), .ref (a_p1 2), .ref (a_p1 3), .ref (a_p1 4), .ref (a_p1 5), .int p1_told, .int p1_lines, .int p1_kinds, .int p1_acts])), ((a_p1 2), .inl (g.2.2.1 0, 144, .inl p1_cells))] → va_S A s.heap H locs → ∀ (ls : Array Slot), lv_has ls 17 [(0, .ref ((a_t 0))), (1, .ref ((a_p1 0))), (2, .int v2), (3, .int v3), (4, .int v4), (5, .int v5), (6, .int v6), (7, .int v7)] → fX0_lay_45 rc  t_rows_n t_rows t_size t_pool t_plies t_room p1_cells v2 v3 v4 v5 v6 v7 z0 = some (o_t_rows, o_t_size) → W p l e ⟨4 + (d + 1), 0, 0, 101 + (d + 1) * 36⟩ s m args below meth c H locs 0 0 Q (F0 m 45 ls [.int z0]) := by
    intro t_rows t_size v2 v3 v4 v5 v6 v7 z0 H locs hP hD hS ls hl h
    unfold fX0_lay_45 at h
    have hG := hGk hS
    refine lv_istore (lv' := [(8, .int z0), (0, .ref ((a_t 0))), (1, .ref ((a_p1 0))), (2, .int v2), (3, .int v3), (4, .int v4), (5, .int v5), (6, .int v6), (7, .int v7)]) hx hb dX0_lay_45 hl (by decide) rfl (fun ls hl => ?_)
    refine lv_iload_n hx hb dX0_lay_47 rfl (lv_at hl 3 rfl) ?_
    refine lv_aload_n hx hb dX0_lay_48 rfl (lv_at hl 1 rfl) ?_
    refine xa_get (C := RX0) (T := TX0) (N := 7) cx hG hP 0 rfl rfl uX0 5 (by decide) lf_X0_41 rfl dX0_lay_49 ?_
    refine ro_i (runSN (As := [.int v2, .int t_plies]) (rest := []) hG cx hl.1 (ctX3_farOf l g v2 t_plies (fX3_farOf v2 t_plies) rfl) kmX3_farOf ksX3_farOf nm_62 ⟨rfl, rfl⟩ (roomOk_mk (by omega) (by omega)) (roS hG (hP.sub [] rfl)) rfl rfl (Nat.le_of_ble_eq_true rfl) dX0_lay_52 ⟨Nat.le_of_ble_eq_true rfl, Nat.le_of_ble_eq_true rfl⟩) ?_
    refine lv_istore (lv' := [(9, .int (fX3_farOf v2 t_plies)), (8, .int z0), (0, .ref ((a_t 0))), (1, .ref ((a_p1 0))), (2, .int v2), (3, .int v3), (4, .int v4), (5, .int v5), (6, .int v6), (7, .int v7)]) hx hb dX0_lay_55 hl (by decide) rfl (fun ls hl => ?_)
    refine lv_iload hx hb dX0_lay_57 (lv_at hl 0 rfl) ?_
    refine ro_i (runSN (As := [.int (fX3_farOf v2 t_plies)]) (rest := []) hG cx hl.1 (ctX3_thickOf l g (fX3_farOf v2 t_plies) (fX3_thickOf (fX3_farOf v2 t_plies)) rfl) kmX3_thickOf ksX3_thickOf nm_63 ⟨rfl, rfl⟩ (roomOk_mk (by omega) (by omega)) (roS hG (hP.sub [] rfl)) rfl rfl (Nat.le_of_ble_eq_true rfl) dX0_lay_59 ⟨Nat.le_of_ble_eq_true rfl, Nat.le_of_ble_eq_true rfl⟩) ?_
    refine lv_istore (lv' := [(10, .int (fX3_thickOf (fX3_farOf v2 t_plies))), (9, .int (fX3_farOf v2 t_plies)), (8, .int z0), (0, .ref ((a_t 0))), (1, .ref ((a_p1 0))), (2, .int v2), (3, .int v3), (4, .int v4), (5, .int v5), (6, .int v6), (7, .int v7)]) hx hb dX0_lay_62 hl (by decide) rfl (fun ls hl => ?_)
    refine lv_iconst (v := -1) hx hb dX0_lay_64 (by decide) ?_
    refine lv_istore (lv' := [(11, .int (-1)), (10, .int (fX3_thickOf (fX3_farOf v2 t_plies))), (9, .int (fX3_farOf v2 t_plies)), (8, .int z0), (0, .ref ((a_t 0))), (1, .ref ((a_p1 0))), (2, .int v2), (3, .int v3), (4, .int v4), (5, .int v5), (6, .int v6), (7, .int v7)]) hx hb dX0_lay_65 hl (by decide) rfl (fun ls hl => ?_)
    refine lv_iconst (v := 0) hx hb dX0_lay_67 (by decide) ?_
    refine lv_istore (lv' := [(12, .int (0)), (11, .int (-1)), (10, .int (fX3_thickOf (fX3_farOf v2 t_plies))), (9, .int (fX3_farOf v2 t_plies)), (8, .int z0), (0, .ref ((a_t 0))), (1, .ref ((a_p1 0))), (2, .int v2), (3, .int v3), (4, .int v4), (5, .int v5), (6, .int v6), (7, .int v7)]) hx hb dX0_lay_68 hl (by decide) rfl (fun ls hl => ?_)
    exact w70 FU t_rows t_size v2 v3 v4 v5 v6 v7 z0 (fX3_farOf v2 t_plies) (fX3_thickOf (fX3_farOf v2 t_plies)) (-1) 0 _ _ hP hD hS _ (lv_sub hl [5, 6, 7, 8, 9, 10, 11, 12, 4, 3, 2, 1, 0] rfl) h
  unfold fX0_lay_e at h
  refine lv_iload_n hx hb dX0_lay_0 rfl (lv_at hl 2 rfl) ?_
  refine lv_aload_n hx hb dX0_lay_1 rfl (lv_at hl 0 rfl) ?_
  refine xa_get (C := RX0) (T := TX0) (N := 7) cx hG hP 0 rfl rfl uX0 5 (by decide) lf_X0_41 rfl dX0_lay_2 ?_
  refine lv_icmp_ge (tgt := 14) hx hb dX0_lay_5 (by decide) (fun c1 => ?_) (fun c1 => ?_)
  · have h := itp c1 h
    exact w14 t_rows t_size v3 v6 v7 _ _ hP hD hS _ (lv_sub hl [0, 1, 3, 6, 7] rfl) h
  · have h := itn c1 h
    refine lv_iload_n hx hb dX0_lay_8 rfl (lv_at hl 2 rfl) ?_
    refine lv_bipush (v := 8) hx hb dX0_lay_9 (by decide) ?_
    refine lv_icmp_lt (tgt := 30) hx hb dX0_lay_11 (by decide) (fun c2 => ?_) (fun c2 => ?_)
    · have h := itp c2 h
      refine lv_iload_n hx hb dX0_lay_30 rfl (lv_at hl 2 rfl) ?_
      refine lv_if_le (tgt := 44) hx hb dX0_lay_31 (by decide) (fun c3 => ?_) (fun c3 => ?_)
      · have h := itp c3 h
        refine lv_iconst (v := -1) hx hb dX0_lay_44 (by decide) ?_
        exact w45 t_rows t_size v2 v3 v4 v5 v6 v7 (-1) _ _ hP hD hS _ (lv_sub hl [0, 1, 2, 3, 4, 5, 6, 7] rfl) h
      · have h := itn c3 h
        refine lv_iload_n hx hb dX0_lay_34 rfl (lv_at hl 3 rfl) ?_
        refine lv_iload_n hx hb dX0_lay_35 rfl (lv_at hl 2 rfl) ?_
        refine lv_iconst (v := 1) hx hb dX0_lay_36 (by decide) ?_
        refine lv_isub hx hb dX0_lay_37 ?_
        refine ro_i (runSN (As := [.int v3, .int (v2 - 1)]) (rest := []) hG cx hl.1 (ctX3_angleAt l g v3 (v2 - 1) (fX3_angleAt v3 (v2 - 1)) rfl) kmX3_angleAt ksX3_angleAt nm_61 ⟨rfl, rfl⟩ (roomOk_mk (by omega) (by omega)) (roS hG (hP.sub [] rfl)) rfl rfl (Nat.le_of_ble_eq_true rfl) dX0_lay_38 ⟨Nat.le_of_ble_eq_true rfl, Nat.le_of_ble_eq_true rfl⟩) ?_
        refine lv_goto (tgt := 45) hx hb dX0_lay_41 (by decide) ?_
        exact w45 t_rows t_size v2 v3 v4 v5 v6 v7 (fX3_angleAt v3 (v2 - 1)) _ _ hP hD hS _ (lv_sub hl [0, 1, 2, 3, 4, 5, 6, 7] rfl) h
    · have h := itn c2 h
      exact w14 t_rows t_size v3 v6 v7 _ _ hP hD hS _ (lv_sub hl [0, 1, 3, 6, 7] rfl) h
-- X0_prepare
theorem dX0_prepare_0 : decode cX0_prepare 0 = .ok (.aload_n 1, 1) := by decide +kernel
theorem dX0_prepare_1 : decode cX0_prepare 1 = .ok (.invokevirtual 22, 3) := by decide +kernel
theorem dX0_prepare_4 : decode cX0_prepare 4 = .ok (.aload_n 1, 1) := by decide +kernel
theorem dX0_prepare_5 : decode cX0_prepare 5 = .ok (.invokevirtual 28, 3) := by decide +kernel
theorem dX0_prepare_8 : decode cX0_prepare 8 = .ok (.invokestatic 31, 3) := by decide +kernel
theorem dX0_prepare_11 : decode cX0_prepare 11 = .ok (.istore_n 2, 1) := by decide +kernel
theorem dX0_prepare_12 : decode cX0_prepare 12 = .ok (.aload_n 0, 1) := by decide +kernel
theorem dX0_prepare_13 : decode cX0_prepare 13 = .ok (.getfield 18, 3) := by decide +kernel
theorem dX0_prepare_16 : decode cX0_prepare 16 = .ok (.ifCond .eq 34, 3) := by decide +kernel
theorem dX0_prepare_19 : decode cX0_prepare 19 = .ok (.aload_n 0, 1) := by decide +kernel
theorem dX0_prepare_20 : decode cX0_prepare 20 = .ok (.getfield 37, 3) := by decide +kernel
theorem dX0_prepare_23 : decode cX0_prepare 23 = .ok (.iload_n 2, 1) := by decide +kernel
theorem dX0_prepare_24 : decode cX0_prepare 24 = .ok (.if_icmp .ne 26, 3) := by decide +kernel
theorem dX0_prepare_27 : decode cX0_prepare 27 = .ok (.aload_n 0, 1) := by decide +kernel
theorem dX0_prepare_28 : decode cX0_prepare 28 = .ok (.getfield 41, 3) := by decide +kernel
theorem dX0_prepare_31 : decode cX0_prepare 31 = .ok (.aload_n 1, 1) := by decide +kernel
theorem dX0_prepare_32 : decode cX0_prepare 32 = .ok (.invokevirtual 28, 3) := by decide +kernel
theorem dX0_prepare_35 : decode cX0_prepare 35 = .ok (.if_icmp .ne 15, 3) := by decide +kernel
theorem dX0_prepare_38 : decode cX0_prepare 38 = .ok (.aload_n 0, 1) := by decide +kernel
theorem dX0_prepare_39 : decode cX0_prepare 39 = .ok (.getfield 43, 3) := by decide +kernel
theorem dX0_prepare_42 : decode cX0_prepare 42 = .ok (.aload_n 1, 1) := by decide +kernel
theorem dX0_prepare_43 : decode cX0_prepare 43 = .ok (.invokevirtual 46, 3) := by decide +kernel
theorem dX0_prepare_46 : decode cX0_prepare 46 = .ok (.if_icmp .ne 4, 3) := by decide +kernel
theorem dX0_prepare_49 : decode cX0_prepare 49 = .ok (.return_, 1) := by decide +kernel
theorem dX0_prepare_50 : decode cX0_prepare 50 = .ok (.aload_n 0, 1) := by decide +kernel
theorem dX0_prepare_51 : decode cX0_prepare 51 = .ok (.iload_n 2, 1) := by decide +kernel
theorem dX0_prepare_52 : decode cX0_prepare 52 = .ok (.putfield 37, 3) := by decide +kernel
theorem dX0_prepare_55 : decode cX0_prepare 55 = .ok (.aload_n 0, 1) := by decide +kernel
theorem dX0_prepare_56 : decode cX0_prepare 56 = .ok (.aload_n 1, 1) := by decide +kernel
theorem dX0_prepare_57 : decode cX0_prepare 57 = .ok (.invokevirtual 28, 3) := by decide +kernel
theorem dX0_prepare_60 : decode cX0_prepare 60 = .ok (.putfield 41, 3) := by decide +kernel
theorem dX0_prepare_63 : decode cX0_prepare 63 = .ok (.aload_n 0, 1) := by decide +kernel
theorem dX0_prepare_64 : decode cX0_prepare 64 = .ok (.aload_n 1, 1) := by decide +kernel
theorem dX0_prepare_65 : decode cX0_prepare 65 = .ok (.invokevirtual 46, 3) := by decide +kernel
theorem dX0_prepare_68 : decode cX0_prepare 68 = .ok (.putfield 43, 3) := by decide +kernel
theorem dX0_prepare_71 : decode cX0_prepare 71 = .ok (.aload_n 0, 1) := by decide +kernel
theorem dX0_prepare_72 : decode cX0_prepare 72 = .ok (.iconst 0, 1) := by decide +kernel
theorem dX0_prepare_73 : decode cX0_prepare 73 = .ok (.putfield 49, 3) := by decide +kernel
theorem dX0_prepare_76 : decode cX0_prepare 76 = .ok (.aload_n 0, 1) := by decide +kernel
theorem dX0_prepare_77 : decode cX0_prepare 77 = .ok (.invokevirtual 52, 3) := by decide +kernel
theorem dX0_prepare_80 : decode cX0_prepare 80 = .ok (.istore_n 3, 1) := by decide +kernel
theorem dX0_prepare_81 : decode cX0_prepare 81 = .ok (.aload_n 0, 1) := by decide +kernel
theorem dX0_prepare_82 : decode cX0_prepare 82 = .ok (.getfield 9, 3) := by decide +kernel
theorem dX0_prepare_85 : decode cX0_prepare 85 = .ok (.arraylength, 1) := by decide +kernel
theorem dX0_prepare_86 : decode cX0_prepare 86 = .ok (.iload_n 3, 1) := by decide +kernel
theorem dX0_prepare_87 : decode cX0_prepare 87 = .ok (.if_icmp .ge 10, 3) := by decide +kernel
theorem dX0_prepare_90 : decode cX0_prepare 90 = .ok (.aload_n 0, 1) := by decide +kernel
theorem dX0_prepare_91 : decode cX0_prepare 91 = .ok (.iload_n 3, 1) := by decide +kernel
theorem dX0_prepare_92 : decode cX0_prepare 92 = .ok (.newarray .long, 2) := by decide +kernel
theorem dX0_prepare_94 : decode cX0_prepare 94 = .ok (.putfield 9, 3) := by decide +kernel
theorem dX0_prepare_97 : decode cX0_prepare 97 = .ok (.aload_n 0, 1) := by decide +kernel
theorem dX0_prepare_98 : decode cX0_prepare 98 = .ok (.aload_n 1, 1) := by decide +kernel
theorem dX0_prepare_99 : decode cX0_prepare 99 = .ok (.iconst 0, 1) := by decide +kernel
theorem dX0_prepare_100 : decode cX0_prepare 100 = .ok (.iconst 0, 1) := by decide +kernel
theorem dX0_prepare_101 : decode cX0_prepare 101 = .ok (.iconst 0, 1) := by decide +kernel
theorem dX0_prepare_102 : decode cX0_prepare 102 = .ok (.iconst 0, 1) := by decide +kernel
theorem dX0_prepare_103 : decode cX0_prepare 103 = .ok (.iconst 0, 1) := by decide +kernel
theorem dX0_prepare_104 : decode cX0_prepare 104 = .ok (.iconst 0, 1) := by decide +kernel
theorem dX0_prepare_105 : decode cX0_prepare 105 = .ok (.invokevirtual 55, 3) := by decide +kernel
theorem dX0_prepare_108 : decode cX0_prepare 108 = .ok (.aload_n 0, 1) := by decide +kernel
theorem dX0_prepare_109 : decode cX0_prepare 109 = .ok (.iconst 1, 1) := by decide +kernel
theorem dX0_prepare_110 : decode cX0_prepare 110 = .ok (.putfield 18, 3) := by decide +kernel
theorem dX0_prepare_113 : decode cX0_prepare 113 = .ok (.return_, 1) := by decide +kernel
noncomputable def fX0_prepare_97 (lim0 : Nat)  (t_rows_n : Nat) (t_rows : Nat → Int64) (t_size : Int32) (t_ready : Int32) (t_pool : Int32) (t_plies : Int32) (t_room : Int32) (p1_cells : Nat → Int32) : Option (Nat × (Nat → Int64) × Int32 × Int32 × Int32 × Int32 × Int32) := ob2 (fX0_lay RD t_rows_n t_rows t_size t_pool t_plies t_room p1_cells 0 0 0 0 0 0) fun w24 w25 => some (t_rows_n, w24, w25, 1, t_pool, t_plies, t_room)
noncomputable def fX0_prepare_50 (lim0 : Nat)  (t_rows_n : Nat) (t_rows : Nat → Int64) (t_size : Int32) (t_ready : Int32) (t_pool : Int32) (t_plies : Int32) (t_room : Int32) (p1_cells : Nat → Int32) (p1_sizes : Nat → Int32) (p1_rooms : Nat → Int32) (p1_acts : Int32) (v2 : Int32) : Option (Nat × (Nat → Int64) × Int32 × Int32 × Int32 × Int32 × Int32) := (fX1_plies p1_sizes p1_acts).bind fun r15 => (fX1_roomNow p1_rooms p1_acts).bind fun r17 => (fX0_mostRows v2 r15).bind fun r19 => (if r19 ≤ (nI t_rows_n) then fX0_prepare_97 lim0 t_rows_n t_rows 0 t_ready v2 r15 r17 p1_cells else nn lim0 r19 (fX0_prepare_97 lim0 r19.toNatClampNeg (fun _ => 0) 0 t_ready v2 r15 r17 p1_cells))
noncomputable def fX0_prepare (lim0 : Nat)  (t_rows_n : Nat) (t_rows : Nat → Int64) (t_size : Int32) (t_ready : Int32) (t_pool : Int32) (t_plies : Int32) (t_room : Int32) (p1_cells : Nat → Int32) (p1_rows : Nat → Int32) (p1_sizes : Nat → Int32) (p1_rooms : Nat → Int32) (p1_acts : Int32) : Option (Nat × (Nat → Int64) × Int32 × Int32 × Int32 × Int32 × Int32) := (fX1_row p1_rows p1_acts).bind fun r1 => (fX1_plies p1_sizes p1_acts).bind fun r3 => (fX3_sorted r1 r3).bind fun r5 => (if t_ready = 0 then fX0_prepare_50 lim0 t_rows_n t_rows t_size t_ready t_pool t_plies t_room p1_cells p1_sizes p1_rooms p1_acts r5 else (if t_pool = r5 then (fX1_plies p1_sizes p1_acts).bind fun r9 => (if t_plies = r9 then (fX1_roomNow p1_rooms p1_acts).bind fun r12 => (if t_room = r12 then some (t_rows_n, t_rows, t_size, t_ready, t_pool, t_plies, t_room) else fX0_prepare_50 lim0 t_rows_n t_rows t_size t_ready t_pool t_plies t_room p1_cells p1_sizes p1_rooms p1_acts r5) else fX0_prepare_50 lim0 t_rows_n t_rows t_size t_ready t_pool t_plies t_room p1_cells p1_sizes p1_rooms p1_acts r5) else fX0_prepare_50 lim0 t_rows_n t_rows t_size t_ready t_pool t_plies t_room p1_cells p1_sizes p1_rooms p1_acts r5))
set_option maxHeartbeats 4000000 in
set_option maxRecDepth 100000 in
theorem ctX0_prepare (l : Launch) (g : GT) (lim0 : Nat) (sz : Nat) (a_t : Nat → Nat) (a_p1 : Nat → Nat) (b_t_rows : Nat) (b_t_seen : Nat) (t_size : Int32) (t_ready : Int32) (t_pool : Int32) (t_plies : Int32) (t_room : Int32) (t_rows_n : Nat) (t_rows : Nat → Int64) (p1_told : Int32) (p1_lines : Int32) (p1_kinds : Int32) (p1_acts : Int32) (p1_cells : Nat → Int32) (p1_rows : Nat → Int32) (p1_sizes : Nat → Int32) (p1_rooms : Nat → Int32) (o_t_rows_n : Nat) (o_t_rows : Nat → Int64) (o_t_size : Int32) (o_t_ready : Int32) (o_t_pool : Int32) (o_t_plies : Int32) (o_t_room : Int32) (h : fX0_prepare lim0 t_rows_n t_rows t_size t_ready t_pool t_plies t_room p1_cells p1_rows p1_sizes p1_rooms p1_acts = some (o_t_rows_n, o_t_rows, o_t_size, o_t_ready, o_t_pool, o_t_plies, o_t_room)) : Met l yX0_prepare (Cond.code yX0_prepare cX0_prepare 4 none :: Tw) ⟨15, 1, lim0, 497⟩ (va_Pc [.ref ((a_t 0)), .ref ((a_p1 0))] (rwB g [((a_t 0), .inr (0, [.ref b_t_rows, .ref b_t_seen, .int t_size, .int t_ready, .int t_pool, .int t_plies, .int t_room])), (b_t_rows, .inl (g.2.2.1 1, t_rows_n, .inr (.inl t_rows))), ((a_p1 0), .inr (1, [.ref (a_p1 1), .ref (a_p1 2), .ref (a_p1 3), .ref (a_p1 4), .ref (a_p1 5), .int p1_told, .int p1_lines, .int p1_kinds, .int p1_acts])), ((a_p1 2), .inl (g.2.2.1 0, 144, .inl p1_cells)), ((a_p1 3), .inl (g.2.2.1 0, 31, .inl p1_rows)), ((a_p1 4), .inl (g.2.2.1 0, 31, .inl p1_sizes)), ((a_p1 5), .inl (g.2.2.1 0, 31, .inl p1_rooms))] sz)) (va_Qv (fun (_ : Nat → Nat) => True) (fun u => rwE g (va_A [((a_t 0), .inr (0, [.ref b_t_rows, .ref b_t_seen, .int t_size, .int t_ready, .int t_pool, .int t_plies, .int t_room])), (b_t_rows, .inl (g.2.2.1 1, t_rows_n, .inr (.inl t_rows))), ((a_p1 0), .inr (1, [.ref (a_p1 1), .ref (a_p1 2), .ref (a_p1 3), .ref (a_p1 4), .ref (a_p1 5), .int p1_told, .int p1_lines, .int p1_kinds, .int p1_acts])), ((a_p1 2), .inl (g.2.2.1 0, 144, .inl p1_cells)), ((a_p1 3), .inl (g.2.2.1 0, 31, .inl p1_rows)), ((a_p1 4), .inl (g.2.2.1 0, 31, .inl p1_sizes)), ((a_p1 5), .inl (g.2.2.1 0, 31, .inl p1_rooms))] sz) [((a_t 0), .inr (0, [.ref (u 0), .ref b_t_seen, .int o_t_size, .int o_t_ready, .int o_t_pool, .int o_t_plies, .int o_t_room])), ((u 0), .inl (g.2.2.1 1, o_t_rows_n, .inr (.inl o_t_rows))), ((a_p1 0), .inr (1, [.ref (a_p1 1), .ref (a_p1 2), .ref (a_p1 3), .ref (a_p1 4), .ref (a_p1 5), .int p1_told, .int p1_lines, .int p1_kinds, .int p1_acts])), ((a_p1 2), .inl (g.2.2.1 0, 144, .inl p1_cells)), ((a_p1 3), .inl (g.2.2.1 0, 31, .inl p1_rows)), ((a_p1 4), .inl (g.2.2.1 0, 31, .inl p1_sizes)), ((a_p1 5), .inl (g.2.2.1 0, 31, .inl p1_rooms))]) (va_A [((a_t 0), .inr (0, [.ref b_t_rows, .ref b_t_seen, .int t_size, .int t_ready, .int t_pool, .int t_plies, .int t_room])), (b_t_rows, .inl (g.2.2.1 1, t_rows_n, .inr (.inl t_rows))), ((a_p1 0), .inr (1, [.ref (a_p1 1), .ref (a_p1 2), .ref (a_p1 3), .ref (a_p1 4), .ref (a_p1 5), .int p1_told, .int p1_lines, .int p1_kinds, .int p1_acts])), ((a_p1 2), .inl (g.2.2.1 0, 144, .inl p1_cells)), ((a_p1 3), .inl (g.2.2.1 0, 31, .inl p1_rows)), ((a_p1 4), .inl (g.2.2.1 0, 31, .inl p1_sizes)), ((a_p1 5), .inl (g.2.2.1 0, 31, .inl p1_rooms))] sz)) 1 lim0 (va_A [((a_t 0), .inr (0, [.ref b_t_rows, .ref b_t_seen, .int t_size, .int t_ready, .int t_pool, .int t_plies, .int t_room])), (b_t_rows, .inl (g.2.2.1 1, t_rows_n, .inr (.inl t_rows))), ((a_p1 0), .inr (1, [.ref (a_p1 1), .ref (a_p1 2), .ref (a_p1 3), .ref (a_p1 4), .ref (a_p1 5), .int p1_told, .int p1_lines, .int p1_kinds, .int p1_acts])), ((a_p1 2), .inl (g.2.2.1 0, 144, .inl p1_cells)), ((a_p1 3), .inl (g.2.2.1 0, 31, .inl p1_rows)), ((a_p1 4), .inl (g.2.2.1 0, 31, .inl p1_sizes)), ((a_p1 5), .inl (g.2.2.1 0, 31, .inl p1_rooms))] sz) := by
  refine rw_metv (by decide) (Nat.le_of_ble_eq_true rfl) (lv0 := [(0, .ref ((a_t 0))), (1, .ref ((a_p1 0)))]) rfl ?_
  intro p e s m args below meth c ls Q A cx hret hG hAb hb0 hA hP hD hl
  have hx := cx.1
  have hb := cx.2.1
  have hG0 := hG
  have hGk : ∀ {H : Heap} {locs : List Loc}, va_S A s.heap H locs → GE g s H := fun hS => hG0.keptS hAb hS
  have hSb : ∀ {H : Heap} {locs : List Loc}, va_S A s.heap H locs → va_S (fun a => g.1 ≤ a) s.heap H locs := fun hS => ⟨hS.1, fun q h1 h2 => hS.2.1 q h1 (fun z => h2 (hAb q z)), fun l hl => hAb _ (hS.2.2 l hl)⟩
  have hS : va_S A s.heap s.heap [] := va_S.rf
  have hrt : ∀ (u : Nat → Nat) (pc : Nat) (ls : Array Slot) (x_t_rows_n : Nat) (x_t_rows : Nat → Int64) (x_t_size : Int32) (x_t_ready : Int32) (x_t_pool : Int32) (x_t_plies : Int32) (x_t_room : Int32) (H : Heap) (locs : List Loc), decode cX0_prepare pc = .ok (.return_, 1) → some (x_t_rows_n, x_t_rows, x_t_size, x_t_ready, x_t_pool, x_t_plies, x_t_room) = some (o_t_rows_n, o_t_rows, o_t_size, o_t_ready, o_t_pool, o_t_plies, o_t_room) → va_P g.2.1 vwCl [((a_t 0), .inr (0, [.ref (u 0), .ref b_t_seen, .int x_t_size, .int x_t_ready, .int x_t_pool, .int x_t_plies, .int x_t_room])), ((u 0), .inl (g.2.2.1 1, x_t_rows_n, .inr (.inl x_t_rows))), ((a_p1 0), .inr (1, [.ref (a_p1 1), .ref (a_p1 2), .ref (a_p1 3), .ref (a_p1 4), .ref (a_p1 5), .int p1_told, .int p1_lines, .int p1_kinds, .int p1_acts])), ((a_p1 2), .inl (g.2.2.1 0, 144, .inl p1_cells)), ((a_p1 3), .inl (g.2.2.1 0, 31, .inl p1_rows)), ((a_p1 4), .inl (g.2.2.1 0, 31, .inl p1_sizes)), ((a_p1 5), .inl (g.2.2.1 0, 31, .inl p1_rooms))] H → va_D A [((a_t 0), .inr (0, [.ref (u 0), .ref b_t_seen, .int x_t_size, .int x_t_ready, .int x_t_pool, .int x_t_plies, .int x_t_room])), ((u 0), .inl (g.2.2.1 1, x_t_rows_n, .inr (.inl x_t_rows))), ((a_p1 0), .inr (1, [.ref (a_p1 1), .ref (a_p1 2), .ref (a_p1 3), .ref (a_p1 4), .ref (a_p1 5), .int p1_told, .int p1_lines, .int p1_kinds, .int p1_acts])), ((a_p1 2), .inl (g.2.2.1 0, 144, .inl p1_cells)), ((a_p1 3), .inl (g.2.2.1 0, 31, .inl p1_rows)), ((a_p1 4), .inl (g.2.2.1 0, 31, .inl p1_sizes)), ((a_p1 5), .inl (g.2.2.1 0, 31, .inl p1_rooms))] → va_S A s.heap H locs → W p l e ⟨15, 1, lim0, 497⟩ s m args below meth c H locs 1 lim0 Q (F0 m pc ls []) := by
    intro u pc ls x_t_rows_n x_t_rows x_t_size x_t_ready x_t_pool x_t_plies x_t_room H locs hd h hP hD hS
    cases h
    exact hret u _ _ _ _ hd hP hD hS
  have w97 : ∀ (t_rows_n : Nat) (t_rows : Nat → Int64) (t_size : Int32) (t_ready : Int32) (t_pool : Int32) (t_plies : Int32) (t_room : Int32) (b_t_rows : Nat) (H : Heap) (locs : List Loc), va_P g.2.1 vwCl [((a_t 0), .inr (0, [.ref b_t_rows, .ref b_t_seen, .int t_size, .int t_ready, .int t_pool, .int t_plies, .int t_room])), (b_t_rows, .inl (g.2.2.1 1, t_rows_n, .inr (.inl t_rows))), ((a_p1 0), .inr (1, [.ref (a_p1 1), .ref (a_p1 2), .ref (a_p1 3), .ref (a_p1 4), .ref (a_p1 5), .int p1_told, .int p1_lines, .int p1_kinds, .int p1_acts])), ((a_p1 2), .inl (g.2.2.1 0, 144, .inl p1_cells)), ((a_p1 3), .inl (g.2.2.1 0, 31, .inl p1_rows)), ((a_p1 4), .inl (g.2.2.1 0, 31, .inl p1_sizes)), ((a_p1 5), .inl (g.2.2.1 0, 31, .inl p1_rooms))] H → va_D A [((a_t 0), .inr (0, [.ref b_t_rows, .ref b_t_seen, .int t_size, .int t_ready, .int t_pool, .int t_plies, .int t_room])), (b_t_rows, .inl (g.2.2.1 1, t_rows_n, .inr (.inl t_rows))), ((a_p1 0), .inr (1, [.ref (a_p1 1), .ref (a_p1 2), .ref (a_p1 3), .ref (a_p1 4), .ref (a_p1 5), .int p1_told, .int p1_lines, .int p1_kinds, .int p1_acts])), ((a_p1 2), .inl (g.2.2.1 0, 144, .inl p1_cells)), ((a_p1 3), .inl (g.2.2.1 0, 31, .inl p1_rows)), ((a_p1 4), .inl (g.2.2.1 0, 31, .inl p1_sizes)), ((a_p1 5), .inl (g.2.2.1 0, 31, .inl p1_rooms))] → va_S A s.heap H locs → ∀ (ls : Array Slot), lv_has ls 4 [(0, .ref ((a_t 0))), (1, .ref ((a_p1 0)))] → fX0_prepare_97 lim0  t_rows_n t_rows t_size t_ready t_pool t_plies t_room p1_cells = some (o_t_rows_n, o_t_rows, o_t_size, o_t_ready, o_t_pool, o_t_plies, o_t_room) → W p l e ⟨15, 1, lim0, 497⟩ s m args below meth c H locs 1 lim0 Q (F0 m 97 ls []) := by
    intro t_rows_n t_rows t_size t_ready t_pool t_plies t_room b_t_rows H locs hP hD hS ls hl h
    unfold fX0_prepare_97 at h
    have hG := hGk hS
    refine lv_aload_n hx hb dX0_prepare_97 rfl (lv_at hl 0 rfl) ?_
    refine lv_aload_n hx hb dX0_prepare_98 rfl (lv_at hl 1 rfl) ?_
    refine lv_iconst (v := 0) hx hb dX0_prepare_99 (by decide) ?_
    refine lv_iconst (v := 0) hx hb dX0_prepare_100 (by decide) ?_
    refine lv_iconst (v := 0) hx hb dX0_prepare_101 (by decide) ?_
    refine lv_iconst (v := 0) hx hb dX0_prepare_102 (by decide) ?_
    refine lv_iconst (v := 0) hx hb dX0_prepare_103 (by decide) ?_
    refine lv_iconst (v := 0) hx hb dX0_prepare_104 (by decide) ?_
    obtain ⟨w24, w25, hr23, h⟩ := ob2_out h
    refine rw_v (WN := fun u26 => [((a_p1 3), .inl (g.2.2.1 0, 31, .inl p1_rows)), ((a_p1 4), .inl (g.2.2.1 0, 31, .inl p1_sizes)), ((a_p1 5), .inl (g.2.2.1 0, 31, .inl p1_rooms)), ((a_t 0), .inr (0, [.ref b_t_rows, .ref b_t_seen, .int w25, .int t_ready, .int t_pool, .int t_plies, .int t_room])), (b_t_rows, .inl (g.2.2.1 1, t_rows_n, .inr (.inl w24))), ((a_p1 0), .inr (1, [.ref (a_p1 1), .ref (a_p1 2), .ref (a_p1 3), .ref (a_p1 4), .ref (a_p1 5), .int p1_told, .int p1_lines, .int p1_kinds, .int p1_acts])), ((a_p1 2), .inl (g.2.2.1 0, 144, .inl p1_cells))]) (wr := [((a_p1 3), .inl (g.2.2.1 0, 31, .inl p1_rows)), ((a_p1 4), .inl (g.2.2.1 0, 31, .inl p1_sizes)), ((a_p1 5), .inl (g.2.2.1 0, 31, .inl p1_rooms))]) (runV (As := [.ref ((a_p1 0)), .int (0), .int (0), .int (0), .int (0), .int (0), .int (0)]) (rest := []) cx hl.1 (ctX0_lay l g RD H.size a_t a_p1 b_t_rows b_t_seen t_size t_ready t_pool t_plies t_room t_rows_n t_rows p1_told p1_lines p1_kinds p1_acts p1_cells (0) (0) (0) (0) (0) (0) w24 w25 hr23) kmX0_lay kvX0_lay lm_X0_55 ⟨rfl, rfl⟩ ⟨Nat.le_of_ble_eq_true rfl, Nat.le_of_ble_eq_true rfl⟩ (rwV (q0 := 0) (ci := 0) hG (hP.sub [0, 1, 2, 3] rfl) (hD.sub [0, 1, 2, 3] (by decide) rfl) hAb hb0 hS hP rfl rfl) rfl rfl (Nat.le_of_ble_eq_true rfl) dX0_prepare_105 ⟨Nat.le_of_ble_eq_true rfl, (show (lim0 + 0 : Nat) ≤ lim0 by omega)⟩) hP hD hS hA [0, 1, 2, 3] [4, 5, 6] rfl rfl (by decide) (by decide) (fun _ => rfl) (fun u26 H locs hP hD hS => ?_)
    have hG := hGk hS
    refine lv_aload_n hx hb dX0_prepare_108 rfl (lv_at hl 0 rfl) ?_
    refine lv_iconst (v := 1) hx hb dX0_prepare_109 (by decide) ?_
    refine xw_put (C := RX0) (T := TX0) (N := 7) (ty := .boolean) (v := .int (1)) (ws' := [((a_p1 3), .inl (g.2.2.1 0, 31, .inl p1_rows)), ((a_p1 4), .inl (g.2.2.1 0, 31, .inl p1_sizes)), ((a_p1 5), .inl (g.2.2.1 0, 31, .inl p1_rooms)), ((a_t 0), .inr (0, [.ref b_t_rows, .ref b_t_seen, .int w25, .int 1, .int t_pool, .int t_plies, .int t_room])), (b_t_rows, .inl (g.2.2.1 1, t_rows_n, .inr (.inl w24))), ((a_p1 0), .inr (1, [.ref (a_p1 1), .ref (a_p1 2), .ref (a_p1 3), .ref (a_p1 4), .ref (a_p1 5), .int p1_told, .int p1_lines, .int p1_kinds, .int p1_acts])), ((a_p1 2), .inl (g.2.2.1 0, 144, .inl p1_cells))]) cx hG hP hD hS 3 rfl rfl uX0 tyX0 tyX0_ok nmX0 3 (by decide) lf_X0_18 rfl (by decide +kernel) rfl rfl (Nat.le_of_ble_eq_true rfl) rfl dX0_prepare_110 (fun H locs hP hD hS => ?_)
    have hG := hGk hS
    exact hrt (fun _ => b_t_rows) _ _ t_rows_n w24 w25 (1) t_pool t_plies t_room _ _ dX0_prepare_113 h (hP.sub [3, 4, 5, 6, 0, 1, 2] rfl) (hD.sub [3, 4, 5, 6, 0, 1, 2] (by decide) rfl) hS
  have w50 : ∀ (t_rows_n : Nat) (t_rows : Nat → Int64) (t_size : Int32) (t_ready : Int32) (t_pool : Int32) (t_plies : Int32) (t_room : Int32) (b_t_rows : Nat) (v2 : Int32) (H : Heap) (locs : List Loc), va_P g.2.1 vwCl [((a_t 0), .inr (0, [.ref b_t_rows, .ref b_t_seen, .int t_size, .int t_ready, .int t_pool, .int t_plies, .int t_room])), (b_t_rows, .inl (g.2.2.1 1, t_rows_n, .inr (.inl t_rows))), ((a_p1 0), .inr (1, [.ref (a_p1 1), .ref (a_p1 2), .ref (a_p1 3), .ref (a_p1 4), .ref (a_p1 5), .int p1_told, .int p1_lines, .int p1_kinds, .int p1_acts])), ((a_p1 2), .inl (g.2.2.1 0, 144, .inl p1_cells)), ((a_p1 3), .inl (g.2.2.1 0, 31, .inl p1_rows)), ((a_p1 4), .inl (g.2.2.1 0, 31, .inl p1_sizes)), ((a_p1 5), .inl (g.2.2.1 0, 31, .inl p1_rooms))] H → va_D A [((a_t 0), .inr (0, [.ref b_t_rows, .ref b_t_seen, .int t_size, .int t_ready, .int t_pool, .int t_plies, .int t_room])), (b_t_rows, .inl (g.2.2.1 1, t_rows_n, .inr (.inl t_rows))), ((a_p1 0), .inr (1, [.ref (a_p1 1), .ref (a_p1 2), .ref (a_p1 3), .ref (a_p1 4), .ref (a_p1 5), .int p1_told, .int p1_lines, .int p1_kinds, .int p1_acts])), ((a_p1 2), .inl (g.2.2.1 0, 144, .inl p1_cells)), ((a_p1 3), .inl (g.2.2.1 0, 31, .inl p1_rows)), ((a_p1 4), .inl (g.2.2.1 0, 31, .inl p1_sizes)), ((a_p1 5), .inl (g.2.2.1 0, 31, .inl p1_rooms))] → va_S A s.heap H locs → ∀ (ls : Array Slot), lv_has ls 4 [(0, .ref ((a_t 0))), (1, .ref ((a_p1 0))), (2, .int v2)] → fX0_prepare_50 lim0  t_rows_n t_rows t_size t_ready t_pool t_plies t_room p1_cells p1_sizes p1_rooms p1_acts v2 = some (o_t_rows_n, o_t_rows, o_t_size, o_t_ready, o_t_pool, o_t_plies, o_t_room) → W p l e ⟨15, 1, lim0, 497⟩ s m args below meth c H locs 0 0 Q (F0 m 50 ls []) := by
    intro t_rows_n t_rows t_size t_ready t_pool t_plies t_room b_t_rows v2 H locs hP hD hS ls hl h
    unfold fX0_prepare_50 at h
    have hG := hGk hS
    refine lv_aload_n hx hb dX0_prepare_50 rfl (lv_at hl 0 rfl) ?_
    refine lv_iload_n hx hb dX0_prepare_51 rfl (lv_at hl 2 rfl) ?_
    refine xw_put (C := RX0) (T := TX0) (N := 7) (ty := .int) (v := .int v2) (ws' := [((a_t 0), .inr (0, [.ref b_t_rows, .ref b_t_seen, .int t_size, .int t_ready, .int v2, .int t_plies, .int t_room])), (b_t_rows, .inl (g.2.2.1 1, t_rows_n, .inr (.inl t_rows))), ((a_p1 0), .inr (1, [.ref (a_p1 1), .ref (a_p1 2), .ref (a_p1 3), .ref (a_p1 4), .ref (a_p1 5), .int p1_told, .int p1_lines, .int p1_kinds, .int p1_acts])), ((a_p1 2), .inl (g.2.2.1 0, 144, .inl p1_cells)), ((a_p1 3), .inl (g.2.2.1 0, 31, .inl p1_rows)), ((a_p1 4), .inl (g.2.2.1 0, 31, .inl p1_sizes)), ((a_p1 5), .inl (g.2.2.1 0, 31, .inl p1_rooms))]) cx hG hP hD hS 0 rfl rfl uX0 tyX0 tyX0_ok nmX0 4 (by decide) lf_X0_37 rfl (by decide +kernel) rfl rfl (Nat.le_of_ble_eq_true rfl) rfl dX0_prepare_52 (fun H locs hP hD hS => ?_)
    have hG := hGk hS
    refine lv_aload_n hx hb dX0_prepare_55 rfl (lv_at hl 0 rfl) ?_
    refine lv_aload_n hx hb dX0_prepare_56 rfl (lv_at hl 1 rfl) ?_
    obtain ⟨r15, hr16, h⟩ := bnd h
    refine ro_i (runVN (As := []) (rest := [.ref ((a_t 0))]) hG cx hl.1 (ctX1_plies l g a_p1 p1_told p1_lines p1_kinds p1_acts p1_sizes r15 hr16) kmX1_plies kvX1_plies nm_54 ⟨rfl, rfl⟩ ⟨Nat.le_of_ble_eq_true rfl, Nat.le_of_ble_eq_true rfl⟩ (roV (q0 := 2) (ci := 1) hG (hP.sub [2, 5] rfl) hP rfl rfl) rfl rfl (Nat.le_of_ble_eq_true rfl) dX0_prepare_57 ⟨Nat.le_of_ble_eq_true rfl, (show (0 + 0 : Nat) ≤ lim0 by omega)⟩) ?_
    refine xw_put (C := RX0) (T := TX0) (N := 7) (ty := .int) (v := .int r15) (ws' := [((a_t 0), .inr (0, [.ref b_t_rows, .ref b_t_seen, .int t_size, .int t_ready, .int v2, .int r15, .int t_room])), (b_t_rows, .inl (g.2.2.1 1, t_rows_n, .inr (.inl t_rows))), ((a_p1 0), .inr (1, [.ref (a_p1 1), .ref (a_p1 2), .ref (a_p1 3), .ref (a_p1 4), .ref (a_p1 5), .int p1_told, .int p1_lines, .int p1_kinds, .int p1_acts])), ((a_p1 2), .inl (g.2.2.1 0, 144, .inl p1_cells)), ((a_p1 3), .inl (g.2.2.1 0, 31, .inl p1_rows)), ((a_p1 4), .inl (g.2.2.1 0, 31, .inl p1_sizes)), ((a_p1 5), .inl (g.2.2.1 0, 31, .inl p1_rooms))]) cx hG hP hD hS 0 rfl rfl uX0 tyX0 tyX0_ok nmX0 5 (by decide) lf_X0_41 rfl (by decide +kernel) rfl rfl (Nat.le_of_ble_eq_true rfl) rfl dX0_prepare_60 (fun H locs hP hD hS => ?_)
    have hG := hGk hS
    refine lv_aload_n hx hb dX0_prepare_63 rfl (lv_at hl 0 rfl) ?_
    refine lv_aload_n hx hb dX0_prepare_64 rfl (lv_at hl 1 rfl) ?_
    obtain ⟨r17, hr18, h⟩ := bnd h
    refine ro_i (runVN (As := []) (rest := [.ref ((a_t 0))]) hG cx hl.1 (ctX1_roomNow l g a_p1 p1_told p1_lines p1_kinds p1_acts p1_rooms r17 hr18) kmX1_roomNow kvX1_roomNow nm_56 ⟨rfl, rfl⟩ ⟨Nat.le_of_ble_eq_true rfl, Nat.le_of_ble_eq_true rfl⟩ (roV (q0 := 2) (ci := 1) hG (hP.sub [2, 6] rfl) hP rfl rfl) rfl rfl (Nat.le_of_ble_eq_true rfl) dX0_prepare_65 ⟨Nat.le_of_ble_eq_true rfl, (show (0 + 0 : Nat) ≤ lim0 by omega)⟩) ?_
    refine xw_put (C := RX0) (T := TX0) (N := 7) (ty := .int) (v := .int r17) (ws' := [((a_t 0), .inr (0, [.ref b_t_rows, .ref b_t_seen, .int t_size, .int t_ready, .int v2, .int r15, .int r17])), (b_t_rows, .inl (g.2.2.1 1, t_rows_n, .inr (.inl t_rows))), ((a_p1 0), .inr (1, [.ref (a_p1 1), .ref (a_p1 2), .ref (a_p1 3), .ref (a_p1 4), .ref (a_p1 5), .int p1_told, .int p1_lines, .int p1_kinds, .int p1_acts])), ((a_p1 2), .inl (g.2.2.1 0, 144, .inl p1_cells)), ((a_p1 3), .inl (g.2.2.1 0, 31, .inl p1_rows)), ((a_p1 4), .inl (g.2.2.1 0, 31, .inl p1_sizes)), ((a_p1 5), .inl (g.2.2.1 0, 31, .inl p1_rooms))]) cx hG hP hD hS 0 rfl rfl uX0 tyX0 tyX0_ok nmX0 6 (by decide) lf_X0_43 rfl (by decide +kernel) rfl rfl (Nat.le_of_ble_eq_true rfl) rfl dX0_prepare_68 (fun H locs hP hD hS => ?_)
    have hG := hGk hS
    refine lv_aload_n hx hb dX0_prepare_71 rfl (lv_at hl 0 rfl) ?_
    refine lv_iconst (v := 0) hx hb dX0_prepare_72 (by decide) ?_
    refine xw_put (C := RX0) (T := TX0) (N := 7) (ty := .int) (v := .int (0)) (ws' := [((a_t 0), .inr (0, [.ref b_t_rows, .ref b_t_seen, .int 0, .int t_ready, .int v2, .int r15, .int r17])), (b_t_rows, .inl (g.2.2.1 1, t_rows_n, .inr (.inl t_rows))), ((a_p1 0), .inr (1, [.ref (a_p1 1), .ref (a_p1 2), .ref (a_p1 3), .ref (a_p1 4), .ref (a_p1 5), .int p1_told, .int p1_lines, .int p1_kinds, .int p1_acts])), ((a_p1 2), .inl (g.2.2.1 0, 144, .inl p1_cells)), ((a_p1 3), .inl (g.2.2.1 0, 31, .inl p1_rows)), ((a_p1 4), .inl (g.2.2.1 0, 31, .inl p1_sizes)), ((a_p1 5), .inl (g.2.2.1 0, 31, .inl p1_rooms))]) cx hG hP hD hS 0 rfl rfl uX0 tyX0 tyX0_ok nmX0 2 (by decide) lf_X0_49 rfl (by decide +kernel) rfl rfl (Nat.le_of_ble_eq_true rfl) rfl dX0_prepare_73 (fun H locs hP hD hS => ?_)
    have hG := hGk hS
    refine lv_aload_n hx hb dX0_prepare_76 rfl (lv_at hl 0 rfl) ?_
    obtain ⟨r19, hr20, h⟩ := bnd h
    refine ro_i (runV (As := []) (rest := []) cx hl.1 (ctX0_mostRows l g a_t b_t_rows b_t_seen (0) t_ready v2 r15 r17 r19 hr20) kmX0_mostRows kvX0_mostRows lm_X0_52 ⟨rfl, rfl⟩ ⟨Nat.le_of_ble_eq_true rfl, Nat.le_of_ble_eq_true rfl⟩ (roV (q0 := 0) (ci := 0) hG (hP.sub [0] rfl) hP rfl rfl) rfl rfl (Nat.le_of_ble_eq_true rfl) dX0_prepare_77 ⟨Nat.le_of_ble_eq_true rfl, (show (0 + 0 : Nat) ≤ lim0 by omega)⟩) ?_
    refine lv_istore_n (lv' := [(3, .int r19), (0, .ref ((a_t 0))), (1, .ref ((a_p1 0))), (2, .int v2)]) hx hb dX0_prepare_80 rfl hl (by decide) rfl (fun ls hl => ?_)
    refine lv_aload_n hx hb dX0_prepare_81 rfl (lv_at hl 1 rfl) ?_
    refine xa_get (C := RX0) (T := TX0) (N := 7) cx hG hP 0 rfl rfl uX0 0 (by decide) lf_X0_9 rfl dX0_prepare_82 ?_
    refine xa_len cx hG hP 1 rfl 1 rfl (v := nI t_rows_n) rfl dX0_prepare_85 ?_
    refine lv_iload_n hx hb dX0_prepare_86 rfl (lv_at hl 0 rfl) ?_
    refine lv_icmp_ge (tgt := 97) hx hb dX0_prepare_87 (by decide) (fun c21 => ?_) (fun c21 => ?_)
    · have h := itp c21 h
      refine W.widen (k := 1) (n := lim0) (Nat.le_of_ble_eq_true rfl) (show (0 : Nat) ≤ lim0 by omega) ?_
      exact w97 t_rows_n t_rows 0 t_ready v2 r15 r17 b_t_rows _ _ hP hD hS _ (lv_sub hl [1, 2] rfl) h
    · have h := itn c21 h
      refine lv_aload_n hx hb dX0_prepare_90 rfl (lv_at hl 1 rfl) ?_
      refine lv_iload_n hx hb dX0_prepare_91 rfl (lv_at hl 0 rfl) ?_
      obtain ⟨hn22, h⟩ := nn_out h
      refine xw_newl (N' := r19.toNatClampNeg) cx hG hP hD hS hA arJ hn22.1 rfl hn22.2.2 (Nat.le_of_ble_eq_true rfl) (show 0 + r19.toNatClampNeg ≤ lim0 by have := hn22.2.1; omega) dX0_prepare_92 (fun q_n92 H hP hD hS => ?_)
      have hP : va_P g.2.1 vwCl [((a_t 0), .inr (0, [.ref b_t_rows, .ref b_t_seen, .int 0, .int t_ready, .int v2, .int r15, .int r17])), (b_t_rows, .inl (g.2.2.1 1, t_rows_n, .inr (.inl t_rows))), ((a_p1 0), .inr (1, [.ref (a_p1 1), .ref (a_p1 2), .ref (a_p1 3), .ref (a_p1 4), .ref (a_p1 5), .int p1_told, .int p1_lines, .int p1_kinds, .int p1_acts])), ((a_p1 2), .inl (g.2.2.1 0, 144, .inl p1_cells)), ((a_p1 3), .inl (g.2.2.1 0, 31, .inl p1_rows)), ((a_p1 4), .inl (g.2.2.1 0, 31, .inl p1_sizes)), ((a_p1 5), .inl (g.2.2.1 0, 31, .inl p1_rooms)), (q_n92, .inl (g.2.2.1 1, r19.toNatClampNeg, .inr (.inl (fun _ => 0))))] H := hP
      have hD : va_D A [((a_t 0), .inr (0, [.ref b_t_rows, .ref b_t_seen, .int 0, .int t_ready, .int v2, .int r15, .int r17])), (b_t_rows, .inl (g.2.2.1 1, t_rows_n, .inr (.inl t_rows))), ((a_p1 0), .inr (1, [.ref (a_p1 1), .ref (a_p1 2), .ref (a_p1 3), .ref (a_p1 4), .ref (a_p1 5), .int p1_told, .int p1_lines, .int p1_kinds, .int p1_acts])), ((a_p1 2), .inl (g.2.2.1 0, 144, .inl p1_cells)), ((a_p1 3), .inl (g.2.2.1 0, 31, .inl p1_rows)), ((a_p1 4), .inl (g.2.2.1 0, 31, .inl p1_sizes)), ((a_p1 5), .inl (g.2.2.1 0, 31, .inl p1_rooms)), (q_n92, .inl (g.2.2.1 1, r19.toNatClampNeg, .inr (.inl (fun _ => 0))))] := hD
      have hG := hGk hS
      refine xw_put (C := RX0) (T := TX0) (N := 7) (ty := .array .long) (v := .ref q_n92) (ws' := [((a_t 0), .inr (0, [.ref q_n92, .ref b_t_seen, .int 0, .int t_ready, .int v2, .int r15, .int r17])), (b_t_rows, .inl (g.2.2.1 1, t_rows_n, .inr (.inl t_rows))), ((a_p1 0), .inr (1, [.ref (a_p1 1), .ref (a_p1 2), .ref (a_p1 3), .ref (a_p1 4), .ref (a_p1 5), .int p1_told, .int p1_lines, .int p1_kinds, .int p1_acts])), ((a_p1 2), .inl (g.2.2.1 0, 144, .inl p1_cells)), ((a_p1 3), .inl (g.2.2.1 0, 31, .inl p1_rows)), ((a_p1 4), .inl (g.2.2.1 0, 31, .inl p1_sizes)), ((a_p1 5), .inl (g.2.2.1 0, 31, .inl p1_rooms)), (q_n92, .inl (g.2.2.1 1, r19.toNatClampNeg, .inr (.inl (fun _ => 0))))]) cx hG hP hD hS 0 rfl rfl uX0 tyX0 tyX0_ok nmX0 0 (by decide) lf_X0_9 rfl (by decide +kernel) rfl rfl (Nat.le_of_ble_eq_true rfl) rfl dX0_prepare_94 (fun H locs hP hD hS => ?_)
      have hP := hP.sub (ws' := [((a_t 0), .inr (0, [.ref q_n92, .ref b_t_seen, .int 0, .int t_ready, .int v2, .int r15, .int r17])), (q_n92, .inl (g.2.2.1 1, r19.toNatClampNeg, .inr (.inl (fun _ => 0)))), ((a_p1 0), .inr (1, [.ref (a_p1 1), .ref (a_p1 2), .ref (a_p1 3), .ref (a_p1 4), .ref (a_p1 5), .int p1_told, .int p1_lines, .int p1_kinds, .int p1_acts])), ((a_p1 2), .inl (g.2.2.1 0, 144, .inl p1_cells)), ((a_p1 3), .inl (g.2.2.1 0, 31, .inl p1_rows)), ((a_p1 4), .inl (g.2.2.1 0, 31, .inl p1_sizes)), ((a_p1 5), .inl (g.2.2.1 0, 31, .inl p1_rooms))]) [0, 7, 2, 3, 4, 5, 6] rfl
      have hD := hD.sub (ws' := [((a_t 0), .inr (0, [.ref q_n92, .ref b_t_seen, .int 0, .int t_ready, .int v2, .int r15, .int r17])), (q_n92, .inl (g.2.2.1 1, r19.toNatClampNeg, .inr (.inl (fun _ => 0)))), ((a_p1 0), .inr (1, [.ref (a_p1 1), .ref (a_p1 2), .ref (a_p1 3), .ref (a_p1 4), .ref (a_p1 5), .int p1_told, .int p1_lines, .int p1_kinds, .int p1_acts])), ((a_p1 2), .inl (g.2.2.1 0, 144, .inl p1_cells)), ((a_p1 3), .inl (g.2.2.1 0, 31, .inl p1_rows)), ((a_p1 4), .inl (g.2.2.1 0, 31, .inl p1_sizes)), ((a_p1 5), .inl (g.2.2.1 0, 31, .inl p1_rooms))]) [0, 7, 2, 3, 4, 5, 6] (by decide) rfl
      have hG := hGk hS
      refine W.widen (k := 1) (n := lim0) (Nat.le_of_ble_eq_true rfl) (show (0 + r19.toNatClampNeg : Nat) ≤ lim0 by omega) ?_
      exact w97 r19.toNatClampNeg (fun _ => 0) 0 t_ready v2 r15 r17 q_n92 _ _ hP hD hS _ (lv_sub hl [1, 2] rfl) h
  unfold fX0_prepare at h
  refine lv_aload_n hx hb dX0_prepare_0 rfl (lv_at hl 1 rfl) ?_
  obtain ⟨r1, hr2, h⟩ := bnd h
  refine ro_i (runVN (As := []) (rest := []) hG cx hl.1 (ctX1_row l g a_p1 p1_told p1_lines p1_kinds p1_acts p1_rows r1 hr2) kmX1_row kvX1_row nm_53 ⟨rfl, rfl⟩ ⟨Nat.le_of_ble_eq_true rfl, Nat.le_of_ble_eq_true rfl⟩ (roV (q0 := 2) (ci := 1) hG (hP.sub [2, 4] rfl) hP rfl rfl) rfl rfl (Nat.le_of_ble_eq_true rfl) dX0_prepare_1 ⟨Nat.le_of_ble_eq_true rfl, (show (0 + 0 : Nat) ≤ lim0 by omega)⟩) ?_
  refine lv_aload_n hx hb dX0_prepare_4 rfl (lv_at hl 1 rfl) ?_
  obtain ⟨r3, hr4, h⟩ := bnd h
  refine ro_i (runVN (As := []) (rest := [.int r1]) hG cx hl.1 (ctX1_plies l g a_p1 p1_told p1_lines p1_kinds p1_acts p1_sizes r3 hr4) kmX1_plies kvX1_plies nm_54 ⟨rfl, rfl⟩ ⟨Nat.le_of_ble_eq_true rfl, Nat.le_of_ble_eq_true rfl⟩ (roV (q0 := 2) (ci := 1) hG (hP.sub [2, 5] rfl) hP rfl rfl) rfl rfl (Nat.le_of_ble_eq_true rfl) dX0_prepare_5 ⟨Nat.le_of_ble_eq_true rfl, (show (0 + 0 : Nat) ≤ lim0 by omega)⟩) ?_
  obtain ⟨r5, hr6, h⟩ := bnd h
  refine ro_i (runSN (As := [.int r1, .int r3]) (rest := []) hG cx hl.1 (ctX3_sorted l g r1 r3 r5 hr6) kmX3_sorted ksX3_sorted nm_55 ⟨rfl, rfl⟩ ⟨Nat.le_of_ble_eq_true rfl, Nat.le_of_ble_eq_true rfl⟩ (roS hG (hP.sub [] rfl)) rfl rfl (Nat.le_of_ble_eq_true rfl) dX0_prepare_8 ⟨Nat.le_of_ble_eq_true rfl, (show (0 + 0 : Nat) ≤ lim0 by omega)⟩) ?_
  refine lv_istore_n (lv' := [(2, .int r5), (0, .ref ((a_t 0))), (1, .ref ((a_p1 0)))]) hx hb dX0_prepare_11 rfl hl (by decide) rfl (fun ls hl => ?_)
  refine lv_aload_n hx hb dX0_prepare_12 rfl (lv_at hl 1 rfl) ?_
  refine xa_get (C := RX0) (T := TX0) (N := 7) cx hG hP 0 rfl rfl uX0 3 (by decide) lf_X0_18 rfl dX0_prepare_13 ?_
  refine lv_if_eq (tgt := 50) hx hb dX0_prepare_16 (by decide) (fun c7 => ?_) (fun c7 => ?_)
  · have h := itp c7 h
    exact w50 t_rows_n t_rows t_size t_ready t_pool t_plies t_room b_t_rows r5 _ _ hP hD hS _ (lv_sub hl [1, 2, 0] rfl) h
  · have h := itn c7 h
    refine lv_aload_n hx hb dX0_prepare_19 rfl (lv_at hl 1 rfl) ?_
    refine xa_get (C := RX0) (T := TX0) (N := 7) cx hG hP 0 rfl rfl uX0 4 (by decide) lf_X0_37 rfl dX0_prepare_20 ?_
    refine lv_iload_n hx hb dX0_prepare_23 rfl (lv_at hl 0 rfl) ?_
    refine lv_icmp_ne (tgt := 50) hx hb dX0_prepare_24 (by decide) (fun c8 => ?_) (fun c8 => ?_)
    · have h := itn c8 h
      exact w50 t_rows_n t_rows t_size t_ready t_pool t_plies t_room b_t_rows r5 _ _ hP hD hS _ (lv_sub hl [1, 2, 0] rfl) h
    · have h := itp c8 h
      refine lv_aload_n hx hb dX0_prepare_27 rfl (lv_at hl 1 rfl) ?_
      refine xa_get (C := RX0) (T := TX0) (N := 7) cx hG hP 0 rfl rfl uX0 5 (by decide) lf_X0_41 rfl dX0_prepare_28 ?_
      refine lv_aload_n hx hb dX0_prepare_31 rfl (lv_at hl 2 rfl) ?_
      obtain ⟨r9, hr10, h⟩ := bnd h
      refine ro_i (runVN (As := []) (rest := [.int t_plies]) hG cx hl.1 (ctX1_plies l g a_p1 p1_told p1_lines p1_kinds p1_acts p1_sizes r9 hr10) kmX1_plies kvX1_plies nm_54 ⟨rfl, rfl⟩ ⟨Nat.le_of_ble_eq_true rfl, Nat.le_of_ble_eq_true rfl⟩ (roV (q0 := 2) (ci := 1) hG (hP.sub [2, 5] rfl) hP rfl rfl) rfl rfl (Nat.le_of_ble_eq_true rfl) dX0_prepare_32 ⟨Nat.le_of_ble_eq_true rfl, (show (0 + 0 : Nat) ≤ lim0 by omega)⟩) ?_
      refine lv_icmp_ne (tgt := 50) hx hb dX0_prepare_35 (by decide) (fun c11 => ?_) (fun c11 => ?_)
      · have h := itn c11 h
        exact w50 t_rows_n t_rows t_size t_ready t_pool t_plies t_room b_t_rows r5 _ _ hP hD hS _ (lv_sub hl [1, 2, 0] rfl) h
      · have h := itp c11 h
        refine lv_aload_n hx hb dX0_prepare_38 rfl (lv_at hl 1 rfl) ?_
        refine xa_get (C := RX0) (T := TX0) (N := 7) cx hG hP 0 rfl rfl uX0 6 (by decide) lf_X0_43 rfl dX0_prepare_39 ?_
        refine lv_aload_n hx hb dX0_prepare_42 rfl (lv_at hl 2 rfl) ?_
        obtain ⟨r12, hr13, h⟩ := bnd h
        refine ro_i (runVN (As := []) (rest := [.int t_room]) hG cx hl.1 (ctX1_roomNow l g a_p1 p1_told p1_lines p1_kinds p1_acts p1_rooms r12 hr13) kmX1_roomNow kvX1_roomNow nm_56 ⟨rfl, rfl⟩ ⟨Nat.le_of_ble_eq_true rfl, Nat.le_of_ble_eq_true rfl⟩ (roV (q0 := 2) (ci := 1) hG (hP.sub [2, 6] rfl) hP rfl rfl) rfl rfl (Nat.le_of_ble_eq_true rfl) dX0_prepare_43 ⟨Nat.le_of_ble_eq_true rfl, (show (0 + 0 : Nat) ≤ lim0 by omega)⟩) ?_
        refine lv_icmp_ne (tgt := 50) hx hb dX0_prepare_46 (by decide) (fun c14 => ?_) (fun c14 => ?_)
        · have h := itn c14 h
          exact w50 t_rows_n t_rows t_size t_ready t_pool t_plies t_room b_t_rows r5 _ _ hP hD hS _ (lv_sub hl [1, 2, 0] rfl) h
        · have h := itp c14 h
          refine W.widen (k := 1) (n := lim0) (Nat.le_of_ble_eq_true rfl) (show (0 : Nat) ≤ lim0 by omega) ?_
          exact hrt (fun _ => b_t_rows) _ _ t_rows_n t_rows t_size t_ready t_pool t_plies t_room _ _ dX0_prepare_49 h (hP.sub [0, 1, 2, 3, 4, 5, 6] rfl) (hD.sub [0, 1, 2, 3, 4, 5, 6] (by decide) rfl) hS
-- X0_isAmong
theorem dX0_isAmong_0 : decode cX0_isAmong 0 = .ok (.iload_n 2, 1) := by decide +kernel
theorem dX0_isAmong_1 : decode cX0_isAmong 1 = .ok (.ifCond .lt 32, 3) := by decide +kernel
theorem dX0_isAmong_4 : decode cX0_isAmong 4 = .ok (.iload_n 2, 1) := by decide +kernel
theorem dX0_isAmong_5 : decode cX0_isAmong 5 = .ok (.aload_n 0, 1) := by decide +kernel
theorem dX0_isAmong_6 : decode cX0_isAmong 6 = .ok (.getfield 9, 3) := by decide +kernel
theorem dX0_isAmong_9 : decode cX0_isAmong 9 = .ok (.arraylength, 1) := by decide +kernel
theorem dX0_isAmong_10 : decode cX0_isAmong 10 = .ok (.if_icmp .ge 23, 3) := by decide +kernel
theorem dX0_isAmong_13 : decode cX0_isAmong 13 = .ok (.aload_n 0, 1) := by decide +kernel
theorem dX0_isAmong_14 : decode cX0_isAmong 14 = .ok (.getfield 9, 3) := by decide +kernel
theorem dX0_isAmong_17 : decode cX0_isAmong 17 = .ok (.iload_n 2, 1) := by decide +kernel
theorem dX0_isAmong_18 : decode cX0_isAmong 18 = .ok (.laload, 1) := by decide +kernel
theorem dX0_isAmong_19 : decode cX0_isAmong 19 = .ok (.bipush 32, 2) := by decide +kernel
theorem dX0_isAmong_21 : decode cX0_isAmong 21 = .ok (.lushr, 1) := by decide +kernel
theorem dX0_isAmong_22 : decode cX0_isAmong 22 = .ok (.l2i, 1) := by decide +kernel
theorem dX0_isAmong_23 : decode cX0_isAmong 23 = .ok (.iload_n 1, 1) := by decide +kernel
theorem dX0_isAmong_24 : decode cX0_isAmong 24 = .ok (.iand, 1) := by decide +kernel
theorem dX0_isAmong_25 : decode cX0_isAmong 25 = .ok (.iload_n 1, 1) := by decide +kernel
theorem dX0_isAmong_26 : decode cX0_isAmong 26 = .ok (.if_icmp .ne 7, 3) := by decide +kernel
theorem dX0_isAmong_29 : decode cX0_isAmong 29 = .ok (.iconst 1, 1) := by decide +kernel
theorem dX0_isAmong_30 : decode cX0_isAmong 30 = .ok (.goto 4, 3) := by decide +kernel
theorem dX0_isAmong_33 : decode cX0_isAmong 33 = .ok (.iconst 0, 1) := by decide +kernel
theorem dX0_isAmong_34 : decode cX0_isAmong 34 = .ok (.ireturn, 1) := by decide +kernel
noncomputable def fX0_isAmong  (t_rows_n : Nat) (t_rows : Nat → Int64) (v1 : Int32) (v2 : Int32) : Option (Int32) := (if v2 < 0 then some (0) else (if (nI t_rows_n) ≤ v2 then some (0) else chk t_rows_n v2 ((if (((lushr (t_rows v2.toNatClampNeg) 32).toInt32) &&& v1) = v1 then some (1) else some (0)))))
set_option maxHeartbeats 4000000 in
set_option maxRecDepth 100000 in
theorem ctX0_isAmong (l : Launch) (g : GT) (a_t : Nat → Nat) (b_t_rows : Nat) (b_t_seen : Nat) (t_size : Int32) (t_ready : Int32) (t_pool : Int32) (t_plies : Int32) (t_room : Int32) (t_rows_n : Nat) (t_rows : Nat → Int64) (v1 : Int32) (v2 : Int32) (o : Int32) (h : fX0_isAmong t_rows_n t_rows v1 v2 = some o) : Met l yX0_isAmong (Cond.code yX0_isAmong cX0_isAmong 3 (some .boolean) :: Tw) ⟨0, 0, 0, 0⟩ (va_Pc [.ref ((a_t 0)), .int v1, .int v2] (roB g [((a_t 0), .inr (0, [.ref b_t_rows, .ref b_t_seen, .int t_size, .int t_ready, .int t_pool, .int t_plies, .int t_room])), (b_t_rows, .inl (g.2.2.1 1, t_rows_n, .inr (.inl t_rows)))])) (vp_Si (fun x => x = o ∧ (x = 0 ∨ x = 1))) 0 0 (fun _ => False) := by
  refine ro_metz (by decide) (Nat.le_of_ble_eq_true rfl) (lv0 := [(0, .ref ((a_t 0))), (1, .int v1), (2, .int v2)]) rfl ?_
  intro p e s m args below meth c ls Q cx hret hG hP hl
  have hx := cx.1
  have hb := cx.2.1
  have hG0 := hG
  unfold fX0_isAmong at h
  refine lv_iload_n hx hb dX0_isAmong_0 rfl (lv_at hl 2 rfl) ?_
  refine lv_if_lt (tgt := 33) hx hb dX0_isAmong_1 (by decide) (fun c1 => ?_) (fun c1 => ?_)
  · have h := itp c1 h
    refine lv_iconst (v := 0) hx hb dX0_isAmong_33 (by decide) ?_
    exact hret _ _ _ dX0_isAmong_34 (by decide) (Option.some.inj h)
  · have h := itn c1 h
    refine lv_iload_n hx hb dX0_isAmong_4 rfl (lv_at hl 2 rfl) ?_
    refine lv_aload_n hx hb dX0_isAmong_5 rfl (lv_at hl 0 rfl) ?_
    refine xa_get (C := RX0) (T := TX0) (N := 7) cx hG hP 0 rfl rfl uX0 0 (by decide) lf_X0_9 rfl dX0_isAmong_6 ?_
    refine xa_len cx hG hP 1 rfl 1 rfl (v := nI t_rows_n) rfl dX0_isAmong_9 ?_
    refine lv_icmp_ge (tgt := 33) hx hb dX0_isAmong_10 (by decide) (fun c2 => ?_) (fun c2 => ?_)
    · have h := itp c2 h
      refine lv_iconst (v := 0) hx hb dX0_isAmong_33 (by decide) ?_
      exact hret _ _ _ dX0_isAmong_34 (by decide) (Option.some.inj h)
    · have h := itn c2 h
      refine lv_aload_n hx hb dX0_isAmong_13 rfl (lv_at hl 0 rfl) ?_
      refine xa_get (C := RX0) (T := TX0) (N := 7) cx hG hP 0 rfl rfl uX0 0 (by decide) lf_X0_9 rfl dX0_isAmong_14 ?_
      refine lv_iload_n hx hb dX0_isAmong_17 rfl (lv_at hl 2 rfl) ?_
      obtain ⟨hi3, h⟩ := chk_out h
      refine xa_lald cx hG hP 1 rfl hi3 rfl dX0_isAmong_18 ?_
      refine lv_bipush (v := 32) hx hb dX0_isAmong_19 (by decide) ?_
      refine lv_lushr (v := lushr (t_rows v2.toNatClampNeg) 32) hx hb dX0_isAmong_21 rfl ?_
      refine lv_l2i (v := (lushr (t_rows v2.toNatClampNeg) 32).toInt32) hx hb dX0_isAmong_22 rfl ?_
      refine lv_iload_n hx hb dX0_isAmong_23 rfl (lv_at hl 1 rfl) ?_
      refine lv_iand hx hb dX0_isAmong_24 ?_
      refine lv_iload_n hx hb dX0_isAmong_25 rfl (lv_at hl 1 rfl) ?_
      refine lv_icmp_ne (tgt := 33) hx hb dX0_isAmong_26 (by decide) (fun c4 => ?_) (fun c4 => ?_)
      · have h := itn c4 h
        refine lv_iconst (v := 0) hx hb dX0_isAmong_33 (by decide) ?_
        exact hret _ _ _ dX0_isAmong_34 (by decide) (Option.some.inj h)
      · have h := itp c4 h
        refine lv_iconst (v := 1) hx hb dX0_isAmong_29 (by decide) ?_
        refine lv_goto (tgt := 34) hx hb dX0_isAmong_30 (by decide) ?_
        exact hret _ _ _ dX0_isAmong_34 (by decide) (Option.some.inj h)
-- X0_rowAt
theorem dX0_rowAt_0 : decode cX0_rowAt 0 = .ok (.iload_n 1, 1) := by decide +kernel
theorem dX0_rowAt_1 : decode cX0_rowAt 1 = .ok (.ifCond .lt 12, 3) := by decide +kernel
theorem dX0_rowAt_4 : decode cX0_rowAt 4 = .ok (.iload_n 1, 1) := by decide +kernel
theorem dX0_rowAt_5 : decode cX0_rowAt 5 = .ok (.aload_n 0, 1) := by decide +kernel
theorem dX0_rowAt_6 : decode cX0_rowAt 6 = .ok (.getfield 9, 3) := by decide +kernel
theorem dX0_rowAt_9 : decode cX0_rowAt 9 = .ok (.arraylength, 1) := by decide +kernel
theorem dX0_rowAt_10 : decode cX0_rowAt 10 = .ok (.if_icmp .lt 7, 3) := by decide +kernel
theorem dX0_rowAt_13 : decode cX0_rowAt 13 = .ok (.iconst 0, 1) := by decide +kernel
theorem dX0_rowAt_14 : decode cX0_rowAt 14 = .ok (.goto 10, 3) := by decide +kernel
theorem dX0_rowAt_17 : decode cX0_rowAt 17 = .ok (.aload_n 0, 1) := by decide +kernel
theorem dX0_rowAt_18 : decode cX0_rowAt 18 = .ok (.getfield 9, 3) := by decide +kernel
theorem dX0_rowAt_21 : decode cX0_rowAt 21 = .ok (.iload_n 1, 1) := by decide +kernel
theorem dX0_rowAt_22 : decode cX0_rowAt 22 = .ok (.laload, 1) := by decide +kernel
theorem dX0_rowAt_23 : decode cX0_rowAt 23 = .ok (.l2i, 1) := by decide +kernel
theorem dX0_rowAt_24 : decode cX0_rowAt 24 = .ok (.ireturn, 1) := by decide +kernel
noncomputable def fX0_rowAt  (t_rows_n : Nat) (t_rows : Nat → Int64) (v1 : Int32) : Option (Int32) := (if v1 < 0 then some (0) else (if v1 < (nI t_rows_n) then chk t_rows_n v1 (some ((t_rows v1.toNatClampNeg).toInt32)) else some (0)))
set_option maxHeartbeats 4000000 in
set_option maxRecDepth 100000 in
theorem ctX0_rowAt (l : Launch) (g : GT) (a_t : Nat → Nat) (b_t_rows : Nat) (b_t_seen : Nat) (t_size : Int32) (t_ready : Int32) (t_pool : Int32) (t_plies : Int32) (t_room : Int32) (t_rows_n : Nat) (t_rows : Nat → Int64) (v1 : Int32) (o : Int32) (h : fX0_rowAt t_rows_n t_rows v1 = some o) : Met l yX0_rowAt (Cond.code yX0_rowAt cX0_rowAt 2 (some .int) :: Tw) ⟨0, 0, 0, 0⟩ (va_Pc [.ref ((a_t 0)), .int v1] (roB g [((a_t 0), .inr (0, [.ref b_t_rows, .ref b_t_seen, .int t_size, .int t_ready, .int t_pool, .int t_plies, .int t_room])), (b_t_rows, .inl (g.2.2.1 1, t_rows_n, .inr (.inl t_rows)))])) (vp_Si (fun x => x = o)) 0 0 (fun _ => False) := by
  refine ro_meti (by decide) (Nat.le_of_ble_eq_true rfl) (lv0 := [(0, .ref ((a_t 0))), (1, .int v1)]) rfl ?_
  intro p e s m args below meth c ls Q cx hret hG hP hl
  have hx := cx.1
  have hb := cx.2.1
  have hG0 := hG
  unfold fX0_rowAt at h
  refine lv_iload_n hx hb dX0_rowAt_0 rfl (lv_at hl 1 rfl) ?_
  refine lv_if_lt (tgt := 13) hx hb dX0_rowAt_1 (by decide) (fun c1 => ?_) (fun c1 => ?_)
  · have h := itp c1 h
    refine lv_iconst (v := 0) hx hb dX0_rowAt_13 (by decide) ?_
    refine lv_goto (tgt := 24) hx hb dX0_rowAt_14 (by decide) ?_
    exact hret _ _ _ dX0_rowAt_24 (Option.some.inj h)
  · have h := itn c1 h
    refine lv_iload_n hx hb dX0_rowAt_4 rfl (lv_at hl 1 rfl) ?_
    refine lv_aload_n hx hb dX0_rowAt_5 rfl (lv_at hl 0 rfl) ?_
    refine xa_get (C := RX0) (T := TX0) (N := 7) cx hG hP 0 rfl rfl uX0 0 (by decide) lf_X0_9 rfl dX0_rowAt_6 ?_
    refine xa_len cx hG hP 1 rfl 1 rfl (v := nI t_rows_n) rfl dX0_rowAt_9 ?_
    refine lv_icmp_lt (tgt := 17) hx hb dX0_rowAt_10 (by decide) (fun c2 => ?_) (fun c2 => ?_)
    · have h := itp c2 h
      refine lv_aload_n hx hb dX0_rowAt_17 rfl (lv_at hl 0 rfl) ?_
      refine xa_get (C := RX0) (T := TX0) (N := 7) cx hG hP 0 rfl rfl uX0 0 (by decide) lf_X0_9 rfl dX0_rowAt_18 ?_
      refine lv_iload_n hx hb dX0_rowAt_21 rfl (lv_at hl 1 rfl) ?_
      obtain ⟨hi3, h⟩ := chk_out h
      refine xa_lald cx hG hP 1 rfl hi3 rfl dX0_rowAt_22 ?_
      refine lv_l2i (v := (t_rows v1.toNatClampNeg).toInt32) hx hb dX0_rowAt_23 rfl ?_
      exact hret _ _ _ dX0_rowAt_24 (Option.some.inj h)
    · have h := itn c2 h
      refine lv_iconst (v := 0) hx hb dX0_rowAt_13 (by decide) ?_
      refine lv_goto (tgt := 24) hx hb dX0_rowAt_14 (by decide) ?_
      exact hret _ _ _ dX0_rowAt_24 (Option.some.inj h)
-- X0_placeAt
theorem dX0_placeAt_0 : decode cX0_placeAt 0 = .ok (.iconst 0, 1) := by decide +kernel
theorem dX0_placeAt_1 : decode cX0_placeAt 1 = .ok (.istore_n 3, 1) := by decide +kernel
theorem dX0_placeAt_2 : decode cX0_placeAt 2 = .ok (.iconst 0, 1) := by decide +kernel
theorem dX0_placeAt_3 : decode cX0_placeAt 3 = .ok (.istore 4, 2) := by decide +kernel
theorem dX0_placeAt_5 : decode cX0_placeAt 5 = .ok (.iload 4, 2) := by decide +kernel
theorem dX0_placeAt_7 : decode cX0_placeAt 7 = .ok (.iload_n 2, 1) := by decide +kernel
theorem dX0_placeAt_8 : decode cX0_placeAt 8 = .ok (.if_icmp .ge 22, 3) := by decide +kernel
theorem dX0_placeAt_11 : decode cX0_placeAt 11 = .ok (.aload_n 0, 1) := by decide +kernel
theorem dX0_placeAt_12 : decode cX0_placeAt 12 = .ok (.iload_n 1, 1) := by decide +kernel
theorem dX0_placeAt_13 : decode cX0_placeAt 13 = .ok (.iload 4, 2) := by decide +kernel
theorem dX0_placeAt_15 : decode cX0_placeAt 15 = .ok (.invokevirtual 103, 3) := by decide +kernel
theorem dX0_placeAt_18 : decode cX0_placeAt 18 = .ok (.ifCond .eq 6, 3) := by decide +kernel
theorem dX0_placeAt_21 : decode cX0_placeAt 21 = .ok (.iinc 3 1, 3) := by decide +kernel
theorem dX0_placeAt_24 : decode cX0_placeAt 24 = .ok (.iinc 4 1, 3) := by decide +kernel
theorem dX0_placeAt_27 : decode cX0_placeAt 27 = .ok (.goto (-22), 3) := by decide +kernel
theorem dX0_placeAt_30 : decode cX0_placeAt 30 = .ok (.iload_n 3, 1) := by decide +kernel
theorem dX0_placeAt_31 : decode cX0_placeAt 31 = .ok (.ireturn, 1) := by decide +kernel
noncomputable def fX0_placeAt_24 (k5 : Nat → (Nat → Int64) → Int32 → Int32 → Int32 → Int32 → Option (Int32)) (t_rows_n : Nat) (t_rows : Nat → Int64) (v1 : Int32) (v2 : Int32) (v3 : Int32) (v4 : Int32) : Option (Int32) := k5 t_rows_n t_rows v1 v2 v3 (v4 + 1)
noncomputable def fX0_placeAt_5  : Nat → Nat → (Nat → Int64) → Int32 → Int32 → Int32 → Int32 → Option (Int32)
  | 0, _, _, _, _, _, _ => none
  | n + 1, t_rows_n, t_rows, v1, v2, v3, v4 => (if v2 ≤ v4 then some v3 else (fX0_isAmong t_rows_n t_rows v1 v4).bind fun r2 => (if r2 = 0 then fX0_placeAt_24 (fX0_placeAt_5 n) t_rows_n t_rows v1 v2 v3 v4 else fX0_placeAt_24 (fX0_placeAt_5 n) t_rows_n t_rows v1 v2 (v3 + 1) v4))
theorem fX0_placeAt_5_z  (t_rows_n : Nat) (t_rows : Nat → Int64) (v1 : Int32) (v2 : Int32) (v3 : Int32) (v4 : Int32) : fX0_placeAt_5  0 t_rows_n t_rows v1 v2 v3 v4 = none := rfl
theorem fX0_placeAt_5_s  (n : Nat) (t_rows_n : Nat) (t_rows : Nat → Int64) (v1 : Int32) (v2 : Int32) (v3 : Int32) (v4 : Int32) : fX0_placeAt_5  (n + 1) t_rows_n t_rows v1 v2 v3 v4 = (if v2 ≤ v4 then some v3 else (fX0_isAmong t_rows_n t_rows v1 v4).bind fun r2 => (if r2 = 0 then fX0_placeAt_24 (fX0_placeAt_5 n) t_rows_n t_rows v1 v2 v3 v4 else fX0_placeAt_24 (fX0_placeAt_5 n) t_rows_n t_rows v1 v2 (v3 + 1) v4)) := rfl
noncomputable def fX0_placeAt  (t_rows_n : Nat) (t_rows : Nat → Int64) (v1 : Int32) (v2 : Int32) : Option (Int32) := fX0_placeAt_5 FU t_rows_n t_rows v1 v2 0 0
set_option maxHeartbeats 4000000 in
set_option maxRecDepth 100000 in
theorem ctX0_placeAt (l : Launch) (g : GT) (a_t : Nat → Nat) (b_t_rows : Nat) (b_t_seen : Nat) (t_size : Int32) (t_ready : Int32) (t_pool : Int32) (t_plies : Int32) (t_room : Int32) (t_rows_n : Nat) (t_rows : Nat → Int64) (v1 : Int32) (v2 : Int32) (o : Int32) (h : fX0_placeAt t_rows_n t_rows v1 v2 = some o) : Met l yX0_placeAt (Cond.code yX0_placeAt cX0_placeAt 5 (some .int) :: Tw) ⟨1, 0, 0, 22⟩ (va_Pc [.ref ((a_t 0)), .int v1, .int v2] (roB g [((a_t 0), .inr (0, [.ref b_t_rows, .ref b_t_seen, .int t_size, .int t_ready, .int t_pool, .int t_plies, .int t_room])), (b_t_rows, .inl (g.2.2.1 1, t_rows_n, .inr (.inl t_rows)))])) (vp_Si (fun x => x = o)) 0 0 (fun _ => False) := by
  refine ro_meti (by decide) (Nat.le_of_ble_eq_true rfl) (lv0 := [(0, .ref ((a_t 0))), (1, .int v1), (2, .int v2)]) rfl ?_
  intro p e s m args below meth c ls Q cx hret hG hP hl
  have hx := cx.1
  have hb := cx.2.1
  have hG0 := hG
  have w24 : ∀ (k5 : Nat → (Nat → Int64) → Int32 → Int32 → Int32 → Int32 → Option (Int32)) (hk5 : ∀ (v1 : Int32) (v2 : Int32) (v3 : Int32) (v4 : Int32) (ls : Array Slot), lv_has ls 5 [(0, .ref ((a_t 0))), (1, .int v1), (2, .int v2), (3, .int v3), (4, .int v4)] → k5 t_rows_n t_rows v1 v2 v3 v4 = some o → W p l e ⟨1, 0, 0, 22⟩ s m args below meth c s.heap [] 0 0 Q (F0 m 5 ls [])) (v1 : Int32) (v2 : Int32) (v3 : Int32) (v4 : Int32) (ls : Array Slot), lv_has ls 5 [(0, .ref ((a_t 0))), (1, .int v1), (2, .int v2), (3, .int v3), (4, .int v4)] → fX0_placeAt_24 k5 t_rows_n t_rows v1 v2 v3 v4 = some o → W p l e ⟨1, 0, 0, 22⟩ s m args below meth c s.heap [] 0 0 Q (F0 m 24 ls []) := by
    intro k5 hk5 v1 v2 v3 v4 ls hl h
    unfold fX0_placeAt_24 at h
    refine lv_iinc (v := v4 + 1) (lv' := [(4, .int (v4 + 1)), (0, .ref ((a_t 0))), (1, .int v1), (2, .int v2), (3, .int v3)]) hx hb dX0_placeAt_24 hl (k := 4) rfl rfl (by decide) rfl (fun ls hl => ?_)
    refine lv_goto (tgt := 5) hx hb dX0_placeAt_27 (by decide) ?_
    exact hk5 v1 v2 v3 (v4 + 1) _ (lv_sub hl [1, 2, 3, 4, 0] rfl) h
  have w5 : ∀ (n : Nat) (v1 : Int32) (v2 : Int32) (v3 : Int32) (v4 : Int32) (ls : Array Slot), lv_has ls 5 [(0, .ref ((a_t 0))), (1, .int v1), (2, .int v2), (3, .int v3), (4, .int v4)] → fX0_placeAt_5  n t_rows_n t_rows v1 v2 v3 v4 = some o → W p l e ⟨1, 0, 0, 22⟩ s m args below meth c s.heap [] 0 0 Q (F0 m 5 ls []) := by
    intro n
    induction n with
    | zero => intro v1 v2 v3 v4 ls hl h; cases (fX0_placeAt_5_z  t_rows_n t_rows v1 v2 v3 v4).symm.trans h
    | succ n ih =>
    intro v1 v2 v3 v4 ls hl h
    have h := (fX0_placeAt_5_s  n t_rows_n t_rows v1 v2 v3 v4).symm.trans h
    refine lv_iload hx hb dX0_placeAt_5 (lv_at hl 4 rfl) ?_
    refine lv_iload_n hx hb dX0_placeAt_7 rfl (lv_at hl 2 rfl) ?_
    refine lv_icmp_ge (tgt := 30) hx hb dX0_placeAt_8 (by decide) (fun c1 => ?_) (fun c1 => ?_)
    · have h := itp c1 h
      refine lv_iload_n hx hb dX0_placeAt_30 rfl (lv_at hl 3 rfl) ?_
      exact hret _ _ _ dX0_placeAt_31 (Option.some.inj h)
    · have h := itn c1 h
      refine lv_aload_n hx hb dX0_placeAt_11 rfl (lv_at hl 0 rfl) ?_
      refine lv_iload_n hx hb dX0_placeAt_12 rfl (lv_at hl 1 rfl) ?_
      refine lv_iload hx hb dX0_placeAt_13 (lv_at hl 4 rfl) ?_
      obtain ⟨r2, hr3, h⟩ := bnd h
      refine ro_z (runV (As := [.int v1, .int v4]) (rest := []) cx hl.1 (ctX0_isAmong l g a_t b_t_rows b_t_seen t_size t_ready t_pool t_plies t_room t_rows_n t_rows v1 v4 r2 hr3) kmX0_isAmong kvX0_isAmong lm_X0_103 ⟨rfl, rfl⟩ ⟨Nat.le_of_ble_eq_true rfl, Nat.le_of_ble_eq_true rfl⟩ (roV (q0 := 0) (ci := 0) hG (hP.sub [0, 1] rfl) hP rfl rfl) rfl rfl (Nat.le_of_ble_eq_true rfl) dX0_placeAt_15 ⟨Nat.le_of_ble_eq_true rfl, Nat.le_of_ble_eq_true rfl⟩) (fun hz4 => ?_)
      refine lv_if_eq (tgt := 24) hx hb dX0_placeAt_18 (by decide) (fun c5 => ?_) (fun c5 => ?_)
      · have h := itp c5 h
        exact w24 _ ih v1 v2 v3 v4 _ (lv_sub hl [0, 1, 2, 3, 4] rfl) h
      · have h := itn c5 h
        refine lv_iinc (v := v3 + 1) (lv' := [(3, .int (v3 + 1)), (0, .ref ((a_t 0))), (1, .int v1), (2, .int v2), (4, .int v4)]) hx hb dX0_placeAt_21 hl (k := 3) rfl rfl (by decide) rfl (fun ls hl => ?_)
        exact w24 _ ih v1 v2 (v3 + 1) v4 _ (lv_sub hl [1, 2, 3, 0, 4] rfl) h
  unfold fX0_placeAt at h
  refine lv_iconst (v := 0) hx hb dX0_placeAt_0 (by decide) ?_
  refine lv_istore_n (lv' := [(3, .int (0)), (0, .ref ((a_t 0))), (1, .int v1), (2, .int v2)]) hx hb dX0_placeAt_1 rfl hl (by decide) rfl (fun ls hl => ?_)
  refine lv_iconst (v := 0) hx hb dX0_placeAt_2 (by decide) ?_
  refine lv_istore (lv' := [(4, .int (0)), (3, .int (0)), (0, .ref ((a_t 0))), (1, .int v1), (2, .int v2)]) hx hb dX0_placeAt_3 hl (by decide) rfl (fun ls hl => ?_)
  exact w5 FU v1 v2 0 0 _ (lv_sub hl [2, 3, 4, 1, 0] rfl) h
-- X0_howMany
theorem dX0_howMany_0 : decode cX0_howMany 0 = .ok (.aload_n 0, 1) := by decide +kernel
theorem dX0_howMany_1 : decode cX0_howMany 1 = .ok (.iload_n 1, 1) := by decide +kernel
theorem dX0_howMany_2 : decode cX0_howMany 2 = .ok (.aload_n 0, 1) := by decide +kernel
theorem dX0_howMany_3 : decode cX0_howMany 3 = .ok (.getfield 49, 3) := by decide +kernel
theorem dX0_howMany_6 : decode cX0_howMany 6 = .ok (.invokevirtual 100, 3) := by decide +kernel
theorem dX0_howMany_9 : decode cX0_howMany 9 = .ok (.ireturn, 1) := by decide +kernel
noncomputable def fX0_howMany  (t_rows_n : Nat) (t_rows : Nat → Int64) (t_size : Int32) (v1 : Int32) : Option (Int32) := (fX0_placeAt t_rows_n t_rows v1 t_size).bind fun r1 => some r1
set_option maxHeartbeats 4000000 in
set_option maxRecDepth 100000 in
theorem ctX0_howMany (l : Launch) (g : GT) (a_t : Nat → Nat) (b_t_rows : Nat) (b_t_seen : Nat) (t_size : Int32) (t_ready : Int32) (t_pool : Int32) (t_plies : Int32) (t_room : Int32) (t_rows_n : Nat) (t_rows : Nat → Int64) (v1 : Int32) (o : Int32) (h : fX0_howMany t_rows_n t_rows t_size v1 = some o) : Met l yX0_howMany (Cond.code yX0_howMany cX0_howMany 2 (some .int) :: Tw) ⟨2, 0, 0, 46⟩ (va_Pc [.ref ((a_t 0)), .int v1] (roB g [((a_t 0), .inr (0, [.ref b_t_rows, .ref b_t_seen, .int t_size, .int t_ready, .int t_pool, .int t_plies, .int t_room])), (b_t_rows, .inl (g.2.2.1 1, t_rows_n, .inr (.inl t_rows)))])) (vp_Si (fun x => x = o)) 0 0 (fun _ => False) := by
  refine ro_meti (by decide) (Nat.le_of_ble_eq_true rfl) (lv0 := [(0, .ref ((a_t 0))), (1, .int v1)]) rfl ?_
  intro p e s m args below meth c ls Q cx hret hG hP hl
  have hx := cx.1
  have hb := cx.2.1
  have hG0 := hG
  unfold fX0_howMany at h
  refine lv_aload_n hx hb dX0_howMany_0 rfl (lv_at hl 0 rfl) ?_
  refine lv_iload_n hx hb dX0_howMany_1 rfl (lv_at hl 1 rfl) ?_
  refine lv_aload_n hx hb dX0_howMany_2 rfl (lv_at hl 0 rfl) ?_
  refine xa_get (C := RX0) (T := TX0) (N := 7) cx hG hP 0 rfl rfl uX0 2 (by decide) lf_X0_49 rfl dX0_howMany_3 ?_
  obtain ⟨r1, hr2, h⟩ := bnd h
  refine ro_i (runV (As := [.int v1, .int t_size]) (rest := []) cx hl.1 (ctX0_placeAt l g a_t b_t_rows b_t_seen t_size t_ready t_pool t_plies t_room t_rows_n t_rows v1 t_size r1 hr2) kmX0_placeAt kvX0_placeAt lm_X0_100 ⟨rfl, rfl⟩ ⟨Nat.le_of_ble_eq_true rfl, Nat.le_of_ble_eq_true rfl⟩ (roV (q0 := 0) (ci := 0) hG (hP.sub [0, 1] rfl) hP rfl rfl) rfl rfl (Nat.le_of_ble_eq_true rfl) dX0_howMany_6 ⟨Nat.le_of_ble_eq_true rfl, Nat.le_of_ble_eq_true rfl⟩) ?_
  exact hret _ _ _ dX0_howMany_9 (Option.some.inj h)
-- X0_find
theorem dX0_find_0 : decode cX0_find 0 = .ok (.iconst 0, 1) := by decide +kernel
theorem dX0_find_1 : decode cX0_find 1 = .ok (.istore_n 3, 1) := by decide +kernel
theorem dX0_find_2 : decode cX0_find 2 = .ok (.iconst 0, 1) := by decide +kernel
theorem dX0_find_3 : decode cX0_find 3 = .ok (.istore 4, 2) := by decide +kernel
theorem dX0_find_5 : decode cX0_find 5 = .ok (.iload 4, 2) := by decide +kernel
theorem dX0_find_7 : decode cX0_find 7 = .ok (.aload_n 0, 1) := by decide +kernel
theorem dX0_find_8 : decode cX0_find 8 = .ok (.getfield 49, 3) := by decide +kernel
theorem dX0_find_11 : decode cX0_find 11 = .ok (.if_icmp .ge 30, 3) := by decide +kernel
theorem dX0_find_14 : decode cX0_find 14 = .ok (.aload_n 0, 1) := by decide +kernel
theorem dX0_find_15 : decode cX0_find 15 = .ok (.iload_n 1, 1) := by decide +kernel
theorem dX0_find_16 : decode cX0_find 16 = .ok (.iload 4, 2) := by decide +kernel
theorem dX0_find_18 : decode cX0_find 18 = .ok (.invokevirtual 103, 3) := by decide +kernel
theorem dX0_find_21 : decode cX0_find 21 = .ok (.ifCond .eq 14, 3) := by decide +kernel
theorem dX0_find_24 : decode cX0_find 24 = .ok (.iload_n 3, 1) := by decide +kernel
theorem dX0_find_25 : decode cX0_find 25 = .ok (.iload_n 2, 1) := by decide +kernel
theorem dX0_find_26 : decode cX0_find 26 = .ok (.if_icmp .ne 6, 3) := by decide +kernel
theorem dX0_find_29 : decode cX0_find 29 = .ok (.iload 4, 2) := by decide +kernel
theorem dX0_find_31 : decode cX0_find 31 = .ok (.ireturn, 1) := by decide +kernel
theorem dX0_find_32 : decode cX0_find 32 = .ok (.iinc 3 1, 3) := by decide +kernel
theorem dX0_find_35 : decode cX0_find 35 = .ok (.iinc 4 1, 3) := by decide +kernel
theorem dX0_find_38 : decode cX0_find 38 = .ok (.goto (-33), 3) := by decide +kernel
theorem dX0_find_41 : decode cX0_find 41 = .ok (.iconst (-1), 1) := by decide +kernel
theorem dX0_find_42 : decode cX0_find 42 = .ok (.ireturn, 1) := by decide +kernel
noncomputable def fX0_find_35 (k5 : Nat → (Nat → Int64) → Int32 → Int32 → Int32 → Int32 → Int32 → Option (Int32)) (t_rows_n : Nat) (t_rows : Nat → Int64) (t_size : Int32) (v1 : Int32) (v2 : Int32) (v3 : Int32) (v4 : Int32) : Option (Int32) := k5 t_rows_n t_rows t_size v1 v2 v3 (v4 + 1)
noncomputable def fX0_find_5  : Nat → Nat → (Nat → Int64) → Int32 → Int32 → Int32 → Int32 → Int32 → Option (Int32)
  | 0, _, _, _, _, _, _, _ => none
  | n + 1, t_rows_n, t_rows, t_size, v1, v2, v3, v4 => (if t_size ≤ v4 then some (-1) else (fX0_isAmong t_rows_n t_rows v1 v4).bind fun r2 => (if r2 = 0 then fX0_find_35 (fX0_find_5 n) t_rows_n t_rows t_size v1 v2 v3 v4 else (if v3 = v2 then some v4 else fX0_find_35 (fX0_find_5 n) t_rows_n t_rows t_size v1 v2 (v3 + 1) v4)))
theorem fX0_find_5_z  (t_rows_n : Nat) (t_rows : Nat → Int64) (t_size : Int32) (v1 : Int32) (v2 : Int32) (v3 : Int32) (v4 : Int32) : fX0_find_5  0 t_rows_n t_rows t_size v1 v2 v3 v4 = none := rfl
theorem fX0_find_5_s  (n : Nat) (t_rows_n : Nat) (t_rows : Nat → Int64) (t_size : Int32) (v1 : Int32) (v2 : Int32) (v3 : Int32) (v4 : Int32) : fX0_find_5  (n + 1) t_rows_n t_rows t_size v1 v2 v3 v4 = (if t_size ≤ v4 then some (-1) else (fX0_isAmong t_rows_n t_rows v1 v4).bind fun r2 => (if r2 = 0 then fX0_find_35 (fX0_find_5 n) t_rows_n t_rows t_size v1 v2 v3 v4 else (if v3 = v2 then some v4 else fX0_find_35 (fX0_find_5 n) t_rows_n t_rows t_size v1 v2 (v3 + 1) v4))) := rfl
noncomputable def fX0_find  (t_rows_n : Nat) (t_rows : Nat → Int64) (t_size : Int32) (v1 : Int32) (v2 : Int32) : Option (Int32) := fX0_find_5 FU t_rows_n t_rows t_size v1 v2 0 0
set_option maxHeartbeats 4000000 in
set_option maxRecDepth 100000 in
theorem ctX0_find (l : Launch) (g : GT) (a_t : Nat → Nat) (b_t_rows : Nat) (b_t_seen : Nat) (t_size : Int32) (t_ready : Int32) (t_pool : Int32) (t_plies : Int32) (t_room : Int32) (t_rows_n : Nat) (t_rows : Nat → Int64) (v1 : Int32) (v2 : Int32) (o : Int32) (h : fX0_find t_rows_n t_rows t_size v1 v2 = some o) : Met l yX0_find (Cond.code yX0_find cX0_find 5 (some .int) :: Tw) ⟨1, 0, 0, 22⟩ (va_Pc [.ref ((a_t 0)), .int v1, .int v2] (roB g [((a_t 0), .inr (0, [.ref b_t_rows, .ref b_t_seen, .int t_size, .int t_ready, .int t_pool, .int t_plies, .int t_room])), (b_t_rows, .inl (g.2.2.1 1, t_rows_n, .inr (.inl t_rows)))])) (vp_Si (fun x => x = o)) 0 0 (fun _ => False) := by
  refine ro_meti (by decide) (Nat.le_of_ble_eq_true rfl) (lv0 := [(0, .ref ((a_t 0))), (1, .int v1), (2, .int v2)]) rfl ?_
  intro p e s m args below meth c ls Q cx hret hG hP hl
  have hx := cx.1
  have hb := cx.2.1
  have hG0 := hG
  have w35 : ∀ (k5 : Nat → (Nat → Int64) → Int32 → Int32 → Int32 → Int32 → Int32 → Option (Int32)) (hk5 : ∀ (v1 : Int32) (v2 : Int32) (v3 : Int32) (v4 : Int32) (ls : Array Slot), lv_has ls 5 [(0, .ref ((a_t 0))), (1, .int v1), (2, .int v2), (3, .int v3), (4, .int v4)] → k5 t_rows_n t_rows t_size v1 v2 v3 v4 = some o → W p l e ⟨1, 0, 0, 22⟩ s m args below meth c s.heap [] 0 0 Q (F0 m 5 ls [])) (v1 : Int32) (v2 : Int32) (v3 : Int32) (v4 : Int32) (ls : Array Slot), lv_has ls 5 [(0, .ref ((a_t 0))), (1, .int v1), (2, .int v2), (3, .int v3), (4, .int v4)] → fX0_find_35 k5 t_rows_n t_rows t_size v1 v2 v3 v4 = some o → W p l e ⟨1, 0, 0, 22⟩ s m args below meth c s.heap [] 0 0 Q (F0 m 35 ls []) := by
    intro k5 hk5 v1 v2 v3 v4 ls hl h
    unfold fX0_find_35 at h
    refine lv_iinc (v := v4 + 1) (lv' := [(4, .int (v4 + 1)), (0, .ref ((a_t 0))), (1, .int v1), (2, .int v2), (3, .int v3)]) hx hb dX0_find_35 hl (k := 4) rfl rfl (by decide) rfl (fun ls hl => ?_)
    refine lv_goto (tgt := 5) hx hb dX0_find_38 (by decide) ?_
    exact hk5 v1 v2 v3 (v4 + 1) _ (lv_sub hl [1, 2, 3, 4, 0] rfl) h
  have w5 : ∀ (n : Nat) (v1 : Int32) (v2 : Int32) (v3 : Int32) (v4 : Int32) (ls : Array Slot), lv_has ls 5 [(0, .ref ((a_t 0))), (1, .int v1), (2, .int v2), (3, .int v3), (4, .int v4)] → fX0_find_5  n t_rows_n t_rows t_size v1 v2 v3 v4 = some o → W p l e ⟨1, 0, 0, 22⟩ s m args below meth c s.heap [] 0 0 Q (F0 m 5 ls []) := by
    intro n
    induction n with
    | zero => intro v1 v2 v3 v4 ls hl h; cases (fX0_find_5_z  t_rows_n t_rows t_size v1 v2 v3 v4).symm.trans h
    | succ n ih =>
    intro v1 v2 v3 v4 ls hl h
    have h := (fX0_find_5_s  n t_rows_n t_rows t_size v1 v2 v3 v4).symm.trans h
    refine lv_iload hx hb dX0_find_5 (lv_at hl 4 rfl) ?_
    refine lv_aload_n hx hb dX0_find_7 rfl (lv_at hl 0 rfl) ?_
    refine xa_get (C := RX0) (T := TX0) (N := 7) cx hG hP 0 rfl rfl uX0 2 (by decide) lf_X0_49 rfl dX0_find_8 ?_
    refine lv_icmp_ge (tgt := 41) hx hb dX0_find_11 (by decide) (fun c1 => ?_) (fun c1 => ?_)
    · have h := itp c1 h
      refine lv_iconst (v := -1) hx hb dX0_find_41 (by decide) ?_
      exact hret _ _ _ dX0_find_42 (Option.some.inj h)
    · have h := itn c1 h
      refine lv_aload_n hx hb dX0_find_14 rfl (lv_at hl 0 rfl) ?_
      refine lv_iload_n hx hb dX0_find_15 rfl (lv_at hl 1 rfl) ?_
      refine lv_iload hx hb dX0_find_16 (lv_at hl 4 rfl) ?_
      obtain ⟨r2, hr3, h⟩ := bnd h
      refine ro_z (runV (As := [.int v1, .int v4]) (rest := []) cx hl.1 (ctX0_isAmong l g a_t b_t_rows b_t_seen t_size t_ready t_pool t_plies t_room t_rows_n t_rows v1 v4 r2 hr3) kmX0_isAmong kvX0_isAmong lm_X0_103 ⟨rfl, rfl⟩ ⟨Nat.le_of_ble_eq_true rfl, Nat.le_of_ble_eq_true rfl⟩ (roV (q0 := 0) (ci := 0) hG (hP.sub [0, 1] rfl) hP rfl rfl) rfl rfl (Nat.le_of_ble_eq_true rfl) dX0_find_18 ⟨Nat.le_of_ble_eq_true rfl, Nat.le_of_ble_eq_true rfl⟩) (fun hz4 => ?_)
      refine lv_if_eq (tgt := 35) hx hb dX0_find_21 (by decide) (fun c5 => ?_) (fun c5 => ?_)
      · have h := itp c5 h
        exact w35 _ ih v1 v2 v3 v4 _ (lv_sub hl [0, 1, 2, 3, 4] rfl) h
      · have h := itn c5 h
        refine lv_iload_n hx hb dX0_find_24 rfl (lv_at hl 3 rfl) ?_
        refine lv_iload_n hx hb dX0_find_25 rfl (lv_at hl 2 rfl) ?_
        refine lv_icmp_ne (tgt := 32) hx hb dX0_find_26 (by decide) (fun c6 => ?_) (fun c6 => ?_)
        · have h := itn c6 h
          refine lv_iinc (v := v3 + 1) (lv' := [(3, .int (v3 + 1)), (0, .ref ((a_t 0))), (1, .int v1), (2, .int v2), (4, .int v4)]) hx hb dX0_find_32 hl (k := 3) rfl rfl (by decide) rfl (fun ls hl => ?_)
          exact w35 _ ih v1 v2 (v3 + 1) v4 _ (lv_sub hl [1, 2, 3, 0, 4] rfl) h
        · have h := itp c6 h
          refine lv_iload hx hb dX0_find_29 (lv_at hl 4 rfl) ?_
          exact hret _ _ _ dX0_find_31 (Option.some.inj h)
  unfold fX0_find at h
  refine lv_iconst (v := 0) hx hb dX0_find_0 (by decide) ?_
  refine lv_istore_n (lv' := [(3, .int (0)), (0, .ref ((a_t 0))), (1, .int v1), (2, .int v2)]) hx hb dX0_find_1 rfl hl (by decide) rfl (fun ls hl => ?_)
  refine lv_iconst (v := 0) hx hb dX0_find_2 (by decide) ?_
  refine lv_istore (lv' := [(4, .int (0)), (3, .int (0)), (0, .ref ((a_t 0))), (1, .int v1), (2, .int v2)]) hx hb dX0_find_3 hl (by decide) rfl (fun ls hl => ?_)
  exact w5 FU v1 v2 0 0 _ (lv_sub hl [2, 3, 4, 1, 0] rfl) h
-- X0_placeOf
theorem dX0_placeOf_0 : decode cX0_placeOf 0 = .ok (.iconst 0, 1) := by decide +kernel
theorem dX0_placeOf_1 : decode cX0_placeOf 1 = .ok (.istore_n 3, 1) := by decide +kernel
theorem dX0_placeOf_2 : decode cX0_placeOf 2 = .ok (.iconst 0, 1) := by decide +kernel
theorem dX0_placeOf_3 : decode cX0_placeOf 3 = .ok (.istore 4, 2) := by decide +kernel
theorem dX0_placeOf_5 : decode cX0_placeOf 5 = .ok (.iload 4, 2) := by decide +kernel
theorem dX0_placeOf_7 : decode cX0_placeOf 7 = .ok (.aload_n 0, 1) := by decide +kernel
theorem dX0_placeOf_8 : decode cX0_placeOf 8 = .ok (.getfield 49, 3) := by decide +kernel
theorem dX0_placeOf_11 : decode cX0_placeOf 11 = .ok (.if_icmp .ge 34, 3) := by decide +kernel
theorem dX0_placeOf_14 : decode cX0_placeOf 14 = .ok (.aload_n 0, 1) := by decide +kernel
theorem dX0_placeOf_15 : decode cX0_placeOf 15 = .ok (.iload_n 1, 1) := by decide +kernel
theorem dX0_placeOf_16 : decode cX0_placeOf 16 = .ok (.iload 4, 2) := by decide +kernel
theorem dX0_placeOf_18 : decode cX0_placeOf 18 = .ok (.invokevirtual 103, 3) := by decide +kernel
theorem dX0_placeOf_21 : decode cX0_placeOf 21 = .ok (.ifCond .eq 18, 3) := by decide +kernel
theorem dX0_placeOf_24 : decode cX0_placeOf 24 = .ok (.aload_n 0, 1) := by decide +kernel
theorem dX0_placeOf_25 : decode cX0_placeOf 25 = .ok (.iload 4, 2) := by decide +kernel
theorem dX0_placeOf_27 : decode cX0_placeOf 27 = .ok (.invokevirtual 106, 3) := by decide +kernel
theorem dX0_placeOf_30 : decode cX0_placeOf 30 = .ok (.iload_n 2, 1) := by decide +kernel
theorem dX0_placeOf_31 : decode cX0_placeOf 31 = .ok (.if_icmp .ne 5, 3) := by decide +kernel
theorem dX0_placeOf_34 : decode cX0_placeOf 34 = .ok (.iload_n 3, 1) := by decide +kernel
theorem dX0_placeOf_35 : decode cX0_placeOf 35 = .ok (.ireturn, 1) := by decide +kernel
theorem dX0_placeOf_36 : decode cX0_placeOf 36 = .ok (.iinc 3 1, 3) := by decide +kernel
theorem dX0_placeOf_39 : decode cX0_placeOf 39 = .ok (.iinc 4 1, 3) := by decide +kernel
theorem dX0_placeOf_42 : decode cX0_placeOf 42 = .ok (.goto (-37), 3) := by decide +kernel
theorem dX0_placeOf_45 : decode cX0_placeOf 45 = .ok (.iconst (-1), 1) := by decide +kernel
theorem dX0_placeOf_46 : decode cX0_placeOf 46 = .ok (.ireturn, 1) := by decide +kernel
noncomputable def fX0_placeOf_39 (k5 : Nat → (Nat → Int64) → Int32 → Int32 → Int32 → Int32 → Int32 → Option (Int32)) (t_rows_n : Nat) (t_rows : Nat → Int64) (t_size : Int32) (v1 : Int32) (v2 : Int32) (v3 : Int32) (v4 : Int32) : Option (Int32) := k5 t_rows_n t_rows t_size v1 v2 v3 (v4 + 1)
noncomputable def fX0_placeOf_5  : Nat → Nat → (Nat → Int64) → Int32 → Int32 → Int32 → Int32 → Int32 → Option (Int32)
  | 0, _, _, _, _, _, _, _ => none
  | n + 1, t_rows_n, t_rows, t_size, v1, v2, v3, v4 => (if t_size ≤ v4 then some (-1) else (fX0_isAmong t_rows_n t_rows v1 v4).bind fun r2 => (if r2 = 0 then fX0_placeOf_39 (fX0_placeOf_5 n) t_rows_n t_rows t_size v1 v2 v3 v4 else (fX0_rowAt t_rows_n t_rows v4).bind fun r6 => (if r6 = v2 then some v3 else fX0_placeOf_39 (fX0_placeOf_5 n) t_rows_n t_rows t_size v1 v2 (v3 + 1) v4)))
theorem fX0_placeOf_5_z  (t_rows_n : Nat) (t_rows : Nat → Int64) (t_size : Int32) (v1 : Int32) (v2 : Int32) (v3 : Int32) (v4 : Int32) : fX0_placeOf_5  0 t_rows_n t_rows t_size v1 v2 v3 v4 = none := rfl
theorem fX0_placeOf_5_s  (n : Nat) (t_rows_n : Nat) (t_rows : Nat → Int64) (t_size : Int32) (v1 : Int32) (v2 : Int32) (v3 : Int32) (v4 : Int32) : fX0_placeOf_5  (n + 1) t_rows_n t_rows t_size v1 v2 v3 v4 = (if t_size ≤ v4 then some (-1) else (fX0_isAmong t_rows_n t_rows v1 v4).bind fun r2 => (if r2 = 0 then fX0_placeOf_39 (fX0_placeOf_5 n) t_rows_n t_rows t_size v1 v2 v3 v4 else (fX0_rowAt t_rows_n t_rows v4).bind fun r6 => (if r6 = v2 then some v3 else fX0_placeOf_39 (fX0_placeOf_5 n) t_rows_n t_rows t_size v1 v2 (v3 + 1) v4))) := rfl
noncomputable def fX0_placeOf  (t_rows_n : Nat) (t_rows : Nat → Int64) (t_size : Int32) (v1 : Int32) (v2 : Int32) : Option (Int32) := fX0_placeOf_5 FU t_rows_n t_rows t_size v1 v2 0 0
set_option maxHeartbeats 4000000 in
set_option maxRecDepth 100000 in
theorem ctX0_placeOf (l : Launch) (g : GT) (a_t : Nat → Nat) (b_t_rows : Nat) (b_t_seen : Nat) (t_size : Int32) (t_ready : Int32) (t_pool : Int32) (t_plies : Int32) (t_room : Int32) (t_rows_n : Nat) (t_rows : Nat → Int64) (v1 : Int32) (v2 : Int32) (o : Int32) (h : fX0_placeOf t_rows_n t_rows t_size v1 v2 = some o) : Met l yX0_placeOf (Cond.code yX0_placeOf cX0_placeOf 5 (some .int) :: Tw) ⟨1, 0, 0, 22⟩ (va_Pc [.ref ((a_t 0)), .int v1, .int v2] (roB g [((a_t 0), .inr (0, [.ref b_t_rows, .ref b_t_seen, .int t_size, .int t_ready, .int t_pool, .int t_plies, .int t_room])), (b_t_rows, .inl (g.2.2.1 1, t_rows_n, .inr (.inl t_rows)))])) (vp_Si (fun x => x = o)) 0 0 (fun _ => False) := by
  refine ro_meti (by decide) (Nat.le_of_ble_eq_true rfl) (lv0 := [(0, .ref ((a_t 0))), (1, .int v1), (2, .int v2)]) rfl ?_
  intro p e s m args below meth c ls Q cx hret hG hP hl
  have hx := cx.1
  have hb := cx.2.1
  have hG0 := hG
  have w39 : ∀ (k5 : Nat → (Nat → Int64) → Int32 → Int32 → Int32 → Int32 → Int32 → Option (Int32)) (hk5 : ∀ (v1 : Int32) (v2 : Int32) (v3 : Int32) (v4 : Int32) (ls : Array Slot), lv_has ls 5 [(0, .ref ((a_t 0))), (1, .int v1), (2, .int v2), (3, .int v3), (4, .int v4)] → k5 t_rows_n t_rows t_size v1 v2 v3 v4 = some o → W p l e ⟨1, 0, 0, 22⟩ s m args below meth c s.heap [] 0 0 Q (F0 m 5 ls [])) (v1 : Int32) (v2 : Int32) (v3 : Int32) (v4 : Int32) (ls : Array Slot), lv_has ls 5 [(0, .ref ((a_t 0))), (1, .int v1), (2, .int v2), (3, .int v3), (4, .int v4)] → fX0_placeOf_39 k5 t_rows_n t_rows t_size v1 v2 v3 v4 = some o → W p l e ⟨1, 0, 0, 22⟩ s m args below meth c s.heap [] 0 0 Q (F0 m 39 ls []) := by
    intro k5 hk5 v1 v2 v3 v4 ls hl h
    unfold fX0_placeOf_39 at h
    refine lv_iinc (v := v4 + 1) (lv' := [(4, .int (v4 + 1)), (0, .ref ((a_t 0))), (1, .int v1), (2, .int v2), (3, .int v3)]) hx hb dX0_placeOf_39 hl (k := 4) rfl rfl (by decide) rfl (fun ls hl => ?_)
    refine lv_goto (tgt := 5) hx hb dX0_placeOf_42 (by decide) ?_
    exact hk5 v1 v2 v3 (v4 + 1) _ (lv_sub hl [1, 2, 3, 4, 0] rfl) h
  have w5 : ∀ (n : Nat) (v1 : Int32) (v2 : Int32) (v3 : Int32) (v4 : Int32) (ls : Array Slot), lv_has ls 5 [(0, .ref ((a_t 0))), (1, .int v1), (2, .int v2), (3, .int v3), (4, .int v4)] → fX0_placeOf_5  n t_rows_n t_rows t_size v1 v2 v3 v4 = some o → W p l e ⟨1, 0, 0, 22⟩ s m args below meth c s.heap [] 0 0 Q (F0 m 5 ls []) := by
    intro n
    induction n with
    | zero => intro v1 v2 v3 v4 ls hl h; cases (fX0_placeOf_5_z  t_rows_n t_rows t_size v1 v2 v3 v4).symm.trans h
    | succ n ih =>
    intro v1 v2 v3 v4 ls hl h
    have h := (fX0_placeOf_5_s  n t_rows_n t_rows t_size v1 v2 v3 v4).symm.trans h
    refine lv_iload hx hb dX0_placeOf_5 (lv_at hl 4 rfl) ?_
    refine lv_aload_n hx hb dX0_placeOf_7 rfl (lv_at hl 0 rfl) ?_
    refine xa_get (C := RX0) (T := TX0) (N := 7) cx hG hP 0 rfl rfl uX0 2 (by decide) lf_X0_49 rfl dX0_placeOf_8 ?_
    refine lv_icmp_ge (tgt := 45) hx hb dX0_placeOf_11 (by decide) (fun c1 => ?_) (fun c1 => ?_)
    · have h := itp c1 h
      refine lv_iconst (v := -1) hx hb dX0_placeOf_45 (by decide) ?_
      exact hret _ _ _ dX0_placeOf_46 (Option.some.inj h)
    · have h := itn c1 h
      refine lv_aload_n hx hb dX0_placeOf_14 rfl (lv_at hl 0 rfl) ?_
      refine lv_iload_n hx hb dX0_placeOf_15 rfl (lv_at hl 1 rfl) ?_
      refine lv_iload hx hb dX0_placeOf_16 (lv_at hl 4 rfl) ?_
      obtain ⟨r2, hr3, h⟩ := bnd h
      refine ro_z (runV (As := [.int v1, .int v4]) (rest := []) cx hl.1 (ctX0_isAmong l g a_t b_t_rows b_t_seen t_size t_ready t_pool t_plies t_room t_rows_n t_rows v1 v4 r2 hr3) kmX0_isAmong kvX0_isAmong lm_X0_103 ⟨rfl, rfl⟩ ⟨Nat.le_of_ble_eq_true rfl, Nat.le_of_ble_eq_true rfl⟩ (roV (q0 := 0) (ci := 0) hG (hP.sub [0, 1] rfl) hP rfl rfl) rfl rfl (Nat.le_of_ble_eq_true rfl) dX0_placeOf_18 ⟨Nat.le_of_ble_eq_true rfl, Nat.le_of_ble_eq_true rfl⟩) (fun hz4 => ?_)
      refine lv_if_eq (tgt := 39) hx hb dX0_placeOf_21 (by decide) (fun c5 => ?_) (fun c5 => ?_)
      · have h := itp c5 h
        exact w39 _ ih v1 v2 v3 v4 _ (lv_sub hl [0, 1, 2, 3, 4] rfl) h
      · have h := itn c5 h
        refine lv_aload_n hx hb dX0_placeOf_24 rfl (lv_at hl 0 rfl) ?_
        refine lv_iload hx hb dX0_placeOf_25 (lv_at hl 4 rfl) ?_
        obtain ⟨r6, hr7, h⟩ := bnd h
        refine ro_i (runV (As := [.int v4]) (rest := []) cx hl.1 (ctX0_rowAt l g a_t b_t_rows b_t_seen t_size t_ready t_pool t_plies t_room t_rows_n t_rows v4 r6 hr7) kmX0_rowAt kvX0_rowAt lm_X0_106 ⟨rfl, rfl⟩ ⟨Nat.le_of_ble_eq_true rfl, Nat.le_of_ble_eq_true rfl⟩ (roV (q0 := 0) (ci := 0) hG (hP.sub [0, 1] rfl) hP rfl rfl) rfl rfl (Nat.le_of_ble_eq_true rfl) dX0_placeOf_27 ⟨Nat.le_of_ble_eq_true rfl, Nat.le_of_ble_eq_true rfl⟩) ?_
        refine lv_iload_n hx hb dX0_placeOf_30 rfl (lv_at hl 2 rfl) ?_
        refine lv_icmp_ne (tgt := 36) hx hb dX0_placeOf_31 (by decide) (fun c8 => ?_) (fun c8 => ?_)
        · have h := itn c8 h
          refine lv_iinc (v := v3 + 1) (lv' := [(3, .int (v3 + 1)), (0, .ref ((a_t 0))), (1, .int v1), (2, .int v2), (4, .int v4)]) hx hb dX0_placeOf_36 hl (k := 3) rfl rfl (by decide) rfl (fun ls hl => ?_)
          exact w39 _ ih v1 v2 (v3 + 1) v4 _ (lv_sub hl [1, 2, 3, 0, 4] rfl) h
        · have h := itp c8 h
          refine lv_iload_n hx hb dX0_placeOf_34 rfl (lv_at hl 3 rfl) ?_
          exact hret _ _ _ dX0_placeOf_35 (Option.some.inj h)
  unfold fX0_placeOf at h
  refine lv_iconst (v := 0) hx hb dX0_placeOf_0 (by decide) ?_
  refine lv_istore_n (lv' := [(3, .int (0)), (0, .ref ((a_t 0))), (1, .int v1), (2, .int v2)]) hx hb dX0_placeOf_1 rfl hl (by decide) rfl (fun ls hl => ?_)
  refine lv_iconst (v := 0) hx hb dX0_placeOf_2 (by decide) ?_
  refine lv_istore (lv' := [(4, .int (0)), (3, .int (0)), (0, .ref ((a_t 0))), (1, .int v1), (2, .int v2)]) hx hb dX0_placeOf_3 hl (by decide) rfl (fun ls hl => ?_)
  exact w5 FU v1 v2 0 0 _ (lv_sub hl [2, 3, 4, 1, 0] rfl) h
-- X0_merit
theorem dX0_merit_0 : decode cX0_merit 0 = .ok (.iload_n 3, 1) := by decide +kernel
theorem dX0_merit_1 : decode cX0_merit 1 = .ok (.iconst 3, 1) := by decide +kernel
theorem dX0_merit_2 : decode cX0_merit 2 = .ok (.if_icmp .ne 17, 3) := by decide +kernel
theorem dX0_merit_5 : decode cX0_merit 5 = .ok (.aload_n 0, 1) := by decide +kernel
theorem dX0_merit_6 : decode cX0_merit 6 = .ok (.iload_n 2, 1) := by decide +kernel
theorem dX0_merit_7 : decode cX0_merit 7 = .ok (.invokevirtual 106, 3) := by decide +kernel
theorem dX0_merit_10 : decode cX0_merit 10 = .ok (.aload_n 0, 1) := by decide +kernel
theorem dX0_merit_11 : decode cX0_merit 11 = .ok (.getfield 41, 3) := by decide +kernel
theorem dX0_merit_14 : decode cX0_merit 14 = .ok (.invokestatic 109, 3) := by decide +kernel
theorem dX0_merit_17 : decode cX0_merit 17 = .ok (.i2l, 1) := by decide +kernel
theorem dX0_merit_18 : decode cX0_merit 18 = .ok (.lreturn, 1) := by decide +kernel
theorem dX0_merit_19 : decode cX0_merit 19 = .ok (.aload_n 1, 1) := by decide +kernel
theorem dX0_merit_20 : decode cX0_merit 20 = .ok (.aload_n 0, 1) := by decide +kernel
theorem dX0_merit_21 : decode cX0_merit 21 = .ok (.iload_n 2, 1) := by decide +kernel
theorem dX0_merit_22 : decode cX0_merit 22 = .ok (.invokevirtual 106, 3) := by decide +kernel
theorem dX0_merit_25 : decode cX0_merit 25 = .ok (.aload_n 0, 1) := by decide +kernel
theorem dX0_merit_26 : decode cX0_merit 26 = .ok (.getfield 41, 3) := by decide +kernel
theorem dX0_merit_29 : decode cX0_merit 29 = .ok (.iconst 0, 1) := by decide +kernel
theorem dX0_merit_30 : decode cX0_merit 30 = .ok (.iconst 2, 1) := by decide +kernel
theorem dX0_merit_31 : decode cX0_merit 31 = .ok (.iconst 4, 1) := by decide +kernel
theorem dX0_merit_32 : decode cX0_merit 32 = .ok (.iload_n 3, 1) := by decide +kernel
theorem dX0_merit_33 : decode cX0_merit 33 = .ok (.imul, 1) := by decide +kernel
theorem dX0_merit_34 : decode cX0_merit 34 = .ok (.invokevirtual 112, 3) := by decide +kernel
theorem dX0_merit_37 : decode cX0_merit 37 = .ok (.lreturn, 1) := by decide +kernel
noncomputable def fX0_merit  (t_rows_n : Nat) (t_rows : Nat → Int64) (t_plies : Int32) (p1_cells : Nat → Int32) (v2 : Int32) (v3 : Int32) : Option (Int64) := (if v3 = 3 then (fX0_rowAt t_rows_n t_rows v2).bind fun r6 => (fX3_likeNeighbours r6 t_plies).bind fun r8 => some r8.toInt64 else (fX0_rowAt t_rows_n t_rows v2).bind fun r2 => (fX1_totalOf p1_cells r2 t_plies 0 2 (4 * v3)).bind fun r4 => some r4)
set_option maxHeartbeats 4000000 in
set_option maxRecDepth 100000 in
theorem ctX0_merit (l : Launch) (g : GT) (a_t : Nat → Nat) (a_p1 : Nat → Nat) (b_t_rows : Nat) (b_t_seen : Nat) (t_size : Int32) (t_ready : Int32) (t_pool : Int32) (t_plies : Int32) (t_room : Int32) (t_rows_n : Nat) (t_rows : Nat → Int64) (p1_told : Int32) (p1_lines : Int32) (p1_kinds : Int32) (p1_acts : Int32) (p1_cells : Nat → Int32) (v2 : Int32) (v3 : Int32) (o : Int64) (h : fX0_merit t_rows_n t_rows t_plies p1_cells v2 v3 = some o) : Met l yX0_merit (Cond.code yX0_merit cX0_merit 4 (some .long) :: Tw) ⟨2, 0, 0, 50⟩ (va_Pc [.ref ((a_t 0)), .ref ((a_p1 0)), .int v2, .int v3] (roB g [((a_t 0), .inr (0, [.ref b_t_rows, .ref b_t_seen, .int t_size, .int t_ready, .int t_pool, .int t_plies, .int t_room])), (b_t_rows, .inl (g.2.2.1 1, t_rows_n, .inr (.inl t_rows))), ((a_p1 0), .inr (1, [.ref (a_p1 1), .ref (a_p1 2), .ref (a_p1 3), .ref (a_p1 4), .ref (a_p1 5), .int p1_told, .int p1_lines, .int p1_kinds, .int p1_acts])), ((a_p1 2), .inl (g.2.2.1 0, 144, .inl p1_cells))])) (vp_Sl (fun x => x = o)) 0 0 (fun _ => False) := by
  refine ro_metl (by decide) (Nat.le_of_ble_eq_true rfl) (lv0 := [(0, .ref ((a_t 0))), (1, .ref ((a_p1 0))), (2, .int v2), (3, .int v3)]) rfl ?_
  intro p e s m args below meth c ls Q cx hret hG hP hl
  have hx := cx.1
  have hb := cx.2.1
  have hG0 := hG
  unfold fX0_merit at h
  refine lv_iload_n hx hb dX0_merit_0 rfl (lv_at hl 3 rfl) ?_
  refine lv_iconst (v := 3) hx hb dX0_merit_1 (by decide) ?_
  refine lv_icmp_ne (tgt := 19) hx hb dX0_merit_2 (by decide) (fun c1 => ?_) (fun c1 => ?_)
  · have h := itn c1 h
    refine lv_aload_n hx hb dX0_merit_19 rfl (lv_at hl 1 rfl) ?_
    refine lv_aload_n hx hb dX0_merit_20 rfl (lv_at hl 0 rfl) ?_
    refine lv_iload_n hx hb dX0_merit_21 rfl (lv_at hl 2 rfl) ?_
    obtain ⟨r2, hr3, h⟩ := bnd h
    refine ro_i (runV (As := [.int v2]) (rest := [.ref ((a_p1 0))]) cx hl.1 (ctX0_rowAt l g a_t b_t_rows b_t_seen t_size t_ready t_pool t_plies t_room t_rows_n t_rows v2 r2 hr3) kmX0_rowAt kvX0_rowAt lm_X0_106 ⟨rfl, rfl⟩ ⟨Nat.le_of_ble_eq_true rfl, Nat.le_of_ble_eq_true rfl⟩ (roV (q0 := 0) (ci := 0) hG (hP.sub [0, 1] rfl) hP rfl rfl) rfl rfl (Nat.le_of_ble_eq_true rfl) dX0_merit_22 ⟨Nat.le_of_ble_eq_true rfl, Nat.le_of_ble_eq_true rfl⟩) ?_
    refine lv_aload_n hx hb dX0_merit_25 rfl (lv_at hl 0 rfl) ?_
    refine xa_get (C := RX0) (T := TX0) (N := 7) cx hG hP 0 rfl rfl uX0 5 (by decide) lf_X0_41 rfl dX0_merit_26 ?_
    refine lv_iconst (v := 0) hx hb dX0_merit_29 (by decide) ?_
    refine lv_iconst (v := 2) hx hb dX0_merit_30 (by decide) ?_
    refine lv_iconst (v := 4) hx hb dX0_merit_31 (by decide) ?_
    refine lv_iload_n hx hb dX0_merit_32 rfl (lv_at hl 3 rfl) ?_
    refine lv_imul hx hb dX0_merit_33 ?_
    obtain ⟨r4, hr5, h⟩ := bnd h
    refine ro_l (runVN (As := [.int r2, .int t_plies, .int (0), .int (2), .int (4 * v3)]) (rest := []) hG cx hl.1 (ctX1_totalOf l g a_p1 p1_told p1_lines p1_kinds p1_acts p1_cells r2 t_plies (0) (2) (4 * v3) r4 hr5) kmX1_totalOf kvX1_totalOf nm_72 ⟨rfl, rfl⟩ ⟨Nat.le_of_ble_eq_true rfl, Nat.le_of_ble_eq_true rfl⟩ (roV (q0 := 2) (ci := 1) hG (hP.sub [2, 3] rfl) hP rfl rfl) rfl rfl (Nat.le_of_ble_eq_true rfl) dX0_merit_34 ⟨Nat.le_of_ble_eq_true rfl, Nat.le_of_ble_eq_true rfl⟩) ?_
    exact hret _ _ _ dX0_merit_37 (Option.some.inj h)
  · have h := itp c1 h
    refine lv_aload_n hx hb dX0_merit_5 rfl (lv_at hl 0 rfl) ?_
    refine lv_iload_n hx hb dX0_merit_6 rfl (lv_at hl 2 rfl) ?_
    obtain ⟨r6, hr7, h⟩ := bnd h
    refine ro_i (runV (As := [.int v2]) (rest := []) cx hl.1 (ctX0_rowAt l g a_t b_t_rows b_t_seen t_size t_ready t_pool t_plies t_room t_rows_n t_rows v2 r6 hr7) kmX0_rowAt kvX0_rowAt lm_X0_106 ⟨rfl, rfl⟩ ⟨Nat.le_of_ble_eq_true rfl, Nat.le_of_ble_eq_true rfl⟩ (roV (q0 := 0) (ci := 0) hG (hP.sub [0, 1] rfl) hP rfl rfl) rfl rfl (Nat.le_of_ble_eq_true rfl) dX0_merit_7 ⟨Nat.le_of_ble_eq_true rfl, Nat.le_of_ble_eq_true rfl⟩) ?_
    refine lv_aload_n hx hb dX0_merit_10 rfl (lv_at hl 0 rfl) ?_
    refine xa_get (C := RX0) (T := TX0) (N := 7) cx hG hP 0 rfl rfl uX0 5 (by decide) lf_X0_41 rfl dX0_merit_11 ?_
    obtain ⟨r8, hr9, h⟩ := bnd h
    refine ro_i (runSN (As := [.int r6, .int t_plies]) (rest := []) hG cx hl.1 (ctX3_likeNeighbours l g r6 t_plies r8 hr9) kmX3_likeNeighbours ksX3_likeNeighbours nm_71 ⟨rfl, rfl⟩ ⟨Nat.le_of_ble_eq_true rfl, Nat.le_of_ble_eq_true rfl⟩ (roS hG (hP.sub [] rfl)) rfl rfl (Nat.le_of_ble_eq_true rfl) dX0_merit_14 ⟨Nat.le_of_ble_eq_true rfl, Nat.le_of_ble_eq_true rfl⟩) ?_
    refine lv_i2l (v := r8.toInt64) hx hb dX0_merit_17 rfl ?_
    exact hret _ _ _ dX0_merit_18 (Option.some.inj h)
-- X0_bestIndex
theorem dX0_bestIndex_0 : decode cX0_bestIndex 0 = .ok (.iconst (-1), 1) := by decide +kernel
theorem dX0_bestIndex_1 : decode cX0_bestIndex 1 = .ok (.istore 4, 2) := by decide +kernel
theorem dX0_bestIndex_3 : decode cX0_bestIndex 3 = .ok (.lconst 0, 1) := by decide +kernel
theorem dX0_bestIndex_4 : decode cX0_bestIndex 4 = .ok (.lstore 5, 2) := by decide +kernel
theorem dX0_bestIndex_6 : decode cX0_bestIndex 6 = .ok (.iconst 0, 1) := by decide +kernel
theorem dX0_bestIndex_7 : decode cX0_bestIndex 7 = .ok (.istore 7, 2) := by decide +kernel
theorem dX0_bestIndex_9 : decode cX0_bestIndex 9 = .ok (.iload 7, 2) := by decide +kernel
theorem dX0_bestIndex_11 : decode cX0_bestIndex 11 = .ok (.aload_n 0, 1) := by decide +kernel
theorem dX0_bestIndex_12 : decode cX0_bestIndex 12 = .ok (.getfield 49, 3) := by decide +kernel
theorem dX0_bestIndex_15 : decode cX0_bestIndex 15 = .ok (.if_icmp .ge 66, 3) := by decide +kernel
theorem dX0_bestIndex_18 : decode cX0_bestIndex 18 = .ok (.aload_n 0, 1) := by decide +kernel
theorem dX0_bestIndex_19 : decode cX0_bestIndex 19 = .ok (.iload_n 2, 1) := by decide +kernel
theorem dX0_bestIndex_20 : decode cX0_bestIndex 20 = .ok (.iload 7, 2) := by decide +kernel
theorem dX0_bestIndex_22 : decode cX0_bestIndex 22 = .ok (.invokevirtual 103, 3) := by decide +kernel
theorem dX0_bestIndex_25 : decode cX0_bestIndex 25 = .ok (.ifCond .eq 50, 3) := by decide +kernel
theorem dX0_bestIndex_28 : decode cX0_bestIndex 28 = .ok (.aload_n 0, 1) := by decide +kernel
theorem dX0_bestIndex_29 : decode cX0_bestIndex 29 = .ok (.aload_n 1, 1) := by decide +kernel
theorem dX0_bestIndex_30 : decode cX0_bestIndex 30 = .ok (.iload 7, 2) := by decide +kernel
theorem dX0_bestIndex_32 : decode cX0_bestIndex 32 = .ok (.iload_n 3, 1) := by decide +kernel
theorem dX0_bestIndex_33 : decode cX0_bestIndex 33 = .ok (.invokevirtual 116, 3) := by decide +kernel
theorem dX0_bestIndex_36 : decode cX0_bestIndex 36 = .ok (.lstore 8, 2) := by decide +kernel
theorem dX0_bestIndex_38 : decode cX0_bestIndex 38 = .ok (.iload_n 3, 1) := by decide +kernel
theorem dX0_bestIndex_39 : decode cX0_bestIndex 39 = .ok (.iconst 3, 1) := by decide +kernel
theorem dX0_bestIndex_40 : decode cX0_bestIndex 40 = .ok (.if_icmp .ne 9, 3) := by decide +kernel
theorem dX0_bestIndex_43 : decode cX0_bestIndex 43 = .ok (.lload 8, 2) := by decide +kernel
theorem dX0_bestIndex_45 : decode cX0_bestIndex 45 = .ok (.lneg, 1) := by decide +kernel
theorem dX0_bestIndex_46 : decode cX0_bestIndex 46 = .ok (.goto 5, 3) := by decide +kernel
theorem dX0_bestIndex_49 : decode cX0_bestIndex 49 = .ok (.lload 8, 2) := by decide +kernel
theorem dX0_bestIndex_51 : decode cX0_bestIndex 51 = .ok (.lstore 10, 2) := by decide +kernel
theorem dX0_bestIndex_53 : decode cX0_bestIndex 53 = .ok (.iload 4, 2) := by decide +kernel
theorem dX0_bestIndex_55 : decode cX0_bestIndex 55 = .ok (.iconst (-1), 1) := by decide +kernel
theorem dX0_bestIndex_56 : decode cX0_bestIndex 56 = .ok (.if_icmp .eq 11, 3) := by decide +kernel
theorem dX0_bestIndex_59 : decode cX0_bestIndex 59 = .ok (.lload 10, 2) := by decide +kernel
theorem dX0_bestIndex_61 : decode cX0_bestIndex 61 = .ok (.lload 5, 2) := by decide +kernel
theorem dX0_bestIndex_63 : decode cX0_bestIndex 63 = .ok (.lcmp, 1) := by decide +kernel
theorem dX0_bestIndex_64 : decode cX0_bestIndex 64 = .ok (.ifCond .le 11, 3) := by decide +kernel
theorem dX0_bestIndex_67 : decode cX0_bestIndex 67 = .ok (.iload 7, 2) := by decide +kernel
theorem dX0_bestIndex_69 : decode cX0_bestIndex 69 = .ok (.istore 4, 2) := by decide +kernel
theorem dX0_bestIndex_71 : decode cX0_bestIndex 71 = .ok (.lload 10, 2) := by decide +kernel
theorem dX0_bestIndex_73 : decode cX0_bestIndex 73 = .ok (.lstore 5, 2) := by decide +kernel
theorem dX0_bestIndex_75 : decode cX0_bestIndex 75 = .ok (.iinc 7 1, 3) := by decide +kernel
theorem dX0_bestIndex_78 : decode cX0_bestIndex 78 = .ok (.goto (-69), 3) := by decide +kernel
theorem dX0_bestIndex_81 : decode cX0_bestIndex 81 = .ok (.iload 4, 2) := by decide +kernel
theorem dX0_bestIndex_83 : decode cX0_bestIndex 83 = .ok (.ireturn, 1) := by decide +kernel
noncomputable def fX0_bestIndex_75 (k9 : Nat → (Nat → Int64) → Int32 → Int32 → (Nat → Int32) → Int32 → Int32 → Int32 → Int64 → Int32 → Option (Int32)) (t_rows_n : Nat) (t_rows : Nat → Int64) (t_size : Int32) (t_plies : Int32) (p1_cells : Nat → Int32) (v2 : Int32) (v3 : Int32) (v4 : Int32) (v5 : Int64) (v7 : Int32) : Option (Int32) := k9 t_rows_n t_rows t_size t_plies p1_cells v2 v3 v4 v5 (v7 + 1)
noncomputable def fX0_bestIndex_67 (k9 : Nat → (Nat → Int64) → Int32 → Int32 → (Nat → Int32) → Int32 → Int32 → Int32 → Int64 → Int32 → Option (Int32)) (t_rows_n : Nat) (t_rows : Nat → Int64) (t_size : Int32) (t_plies : Int32) (p1_cells : Nat → Int32) (v2 : Int32) (v3 : Int32) (v7 : Int32) (v10 : Int64) : Option (Int32) := fX0_bestIndex_75 k9 t_rows_n t_rows t_size t_plies p1_cells v2 v3 v7 v10 v7
noncomputable def fX0_bestIndex_51 (k9 : Nat → (Nat → Int64) → Int32 → Int32 → (Nat → Int32) → Int32 → Int32 → Int32 → Int64 → Int32 → Option (Int32)) (t_rows_n : Nat) (t_rows : Nat → Int64) (t_size : Int32) (t_plies : Int32) (p1_cells : Nat → Int32) (v2 : Int32) (v3 : Int32) (v4 : Int32) (v5 : Int64) (v7 : Int32) (z0 : Int64) : Option (Int32) := (if v4 = (-1) then fX0_bestIndex_67 k9 t_rows_n t_rows t_size t_plies p1_cells v2 v3 v7 z0 else (if (lg_cmp z0 v5) ≤ 0 then fX0_bestIndex_75 k9 t_rows_n t_rows t_size t_plies p1_cells v2 v3 v4 v5 v7 else fX0_bestIndex_67 k9 t_rows_n t_rows t_size t_plies p1_cells v2 v3 v7 z0))
noncomputable def fX0_bestIndex_9  : Nat → Nat → (Nat → Int64) → Int32 → Int32 → (Nat → Int32) → Int32 → Int32 → Int32 → Int64 → Int32 → Option (Int32)
  | 0, _, _, _, _, _, _, _, _, _, _ => none
  | n + 1, t_rows_n, t_rows, t_size, t_plies, p1_cells, v2, v3, v4, v5, v7 => (if t_size ≤ v7 then some v4 else (fX0_isAmong t_rows_n t_rows v2 v7).bind fun r2 => (if r2 = 0 then fX0_bestIndex_75 (fX0_bestIndex_9 n) t_rows_n t_rows t_size t_plies p1_cells v2 v3 v4 v5 v7 else (fX0_merit t_rows_n t_rows t_plies p1_cells v7 v3).bind fun r6 => (if v3 = 3 then fX0_bestIndex_51 (fX0_bestIndex_9 n) t_rows_n t_rows t_size t_plies p1_cells v2 v3 v4 v5 v7 (-r6) else fX0_bestIndex_51 (fX0_bestIndex_9 n) t_rows_n t_rows t_size t_plies p1_cells v2 v3 v4 v5 v7 r6)))
theorem fX0_bestIndex_9_z  (t_rows_n : Nat) (t_rows : Nat → Int64) (t_size : Int32) (t_plies : Int32) (p1_cells : Nat → Int32) (v2 : Int32) (v3 : Int32) (v4 : Int32) (v5 : Int64) (v7 : Int32) : fX0_bestIndex_9  0 t_rows_n t_rows t_size t_plies p1_cells v2 v3 v4 v5 v7 = none := rfl
theorem fX0_bestIndex_9_s  (n : Nat) (t_rows_n : Nat) (t_rows : Nat → Int64) (t_size : Int32) (t_plies : Int32) (p1_cells : Nat → Int32) (v2 : Int32) (v3 : Int32) (v4 : Int32) (v5 : Int64) (v7 : Int32) : fX0_bestIndex_9  (n + 1) t_rows_n t_rows t_size t_plies p1_cells v2 v3 v4 v5 v7 = (if t_size ≤ v7 then some v4 else (fX0_isAmong t_rows_n t_rows v2 v7).bind fun r2 => (if r2 = 0 then fX0_bestIndex_75 (fX0_bestIndex_9 n) t_rows_n t_rows t_size t_plies p1_cells v2 v3 v4 v5 v7 else (fX0_merit t_rows_n t_rows t_plies p1_cells v7 v3).bind fun r6 => (if v3 = 3 then fX0_bestIndex_51 (fX0_bestIndex_9 n) t_rows_n t_rows t_size t_plies p1_cells v2 v3 v4 v5 v7 (-r6) else fX0_bestIndex_51 (fX0_bestIndex_9 n) t_rows_n t_rows t_size t_plies p1_cells v2 v3 v4 v5 v7 r6))) := rfl
noncomputable def fX0_bestIndex  (t_rows_n : Nat) (t_rows : Nat → Int64) (t_size : Int32) (t_plies : Int32) (p1_cells : Nat → Int32) (v2 : Int32) (v3 : Int32) : Option (Int32) := fX0_bestIndex_9 FU t_rows_n t_rows t_size t_plies p1_cells v2 v3 (-1) 0 0
set_option maxHeartbeats 4000000 in
set_option maxRecDepth 100000 in
theorem ctX0_bestIndex (l : Launch) (g : GT) (a_t : Nat → Nat) (a_p1 : Nat → Nat) (b_t_rows : Nat) (b_t_seen : Nat) (t_size : Int32) (t_ready : Int32) (t_pool : Int32) (t_plies : Int32) (t_room : Int32) (t_rows_n : Nat) (t_rows : Nat → Int64) (p1_told : Int32) (p1_lines : Int32) (p1_kinds : Int32) (p1_acts : Int32) (p1_cells : Nat → Int32) (v2 : Int32) (v3 : Int32) (o : Int32) (h : fX0_bestIndex t_rows_n t_rows t_size t_plies p1_cells v2 v3 = some o) : Met l yX0_bestIndex (Cond.code yX0_bestIndex cX0_bestIndex 12 (some .int) :: Tw) ⟨3, 0, 0, 73⟩ (va_Pc [.ref ((a_t 0)), .ref ((a_p1 0)), .int v2, .int v3] (roB g [((a_t 0), .inr (0, [.ref b_t_rows, .ref b_t_seen, .int t_size, .int t_ready, .int t_pool, .int t_plies, .int t_room])), (b_t_rows, .inl (g.2.2.1 1, t_rows_n, .inr (.inl t_rows))), ((a_p1 0), .inr (1, [.ref (a_p1 1), .ref (a_p1 2), .ref (a_p1 3), .ref (a_p1 4), .ref (a_p1 5), .int p1_told, .int p1_lines, .int p1_kinds, .int p1_acts])), ((a_p1 2), .inl (g.2.2.1 0, 144, .inl p1_cells))])) (vp_Si (fun x => x = o)) 0 0 (fun _ => False) := by
  refine ro_meti (by decide) (Nat.le_of_ble_eq_true rfl) (lv0 := [(0, .ref ((a_t 0))), (1, .ref ((a_p1 0))), (2, .int v2), (3, .int v3)]) rfl ?_
  intro p e s m args below meth c ls Q cx hret hG hP hl
  have hx := cx.1
  have hb := cx.2.1
  have hG0 := hG
  have w75 : ∀ (k9 : Nat → (Nat → Int64) → Int32 → Int32 → (Nat → Int32) → Int32 → Int32 → Int32 → Int64 → Int32 → Option (Int32)) (hk9 : ∀ (v2 : Int32) (v3 : Int32) (v4 : Int32) (v5 : Int64) (v7 : Int32) (ls : Array Slot), lv_has ls 12 [(0, .ref ((a_t 0))), (1, .ref ((a_p1 0))), (2, .int v2), (3, .int v3), (4, .int v4), (5, .long v5), (7, .int v7)] → k9 t_rows_n t_rows t_size t_plies p1_cells v2 v3 v4 v5 v7 = some o → W p l e ⟨3, 0, 0, 73⟩ s m args below meth c s.heap [] 0 0 Q (F0 m 9 ls [])) (v2 : Int32) (v3 : Int32) (v4 : Int32) (v5 : Int64) (v7 : Int32) (ls : Array Slot), lv_has ls 12 [(0, .ref ((a_t 0))), (1, .ref ((a_p1 0))), (2, .int v2), (3, .int v3), (4, .int v4), (5, .long v5), (7, .int v7)] → fX0_bestIndex_75 k9 t_rows_n t_rows t_size t_plies p1_cells v2 v3 v4 v5 v7 = some o → W p l e ⟨3, 0, 0, 73⟩ s m args below meth c s.heap [] 0 0 Q (F0 m 75 ls []) := by
    intro k9 hk9 v2 v3 v4 v5 v7 ls hl h
    unfold fX0_bestIndex_75 at h
    refine lv_iinc (v := v7 + 1) (lv' := [(7, .int (v7 + 1)), (0, .ref ((a_t 0))), (1, .ref ((a_p1 0))), (2, .int v2), (3, .int v3), (4, .int v4), (5, .long v5)]) hx hb dX0_bestIndex_75 hl (k := 6) rfl rfl (by decide) rfl (fun ls hl => ?_)
    refine lv_goto (tgt := 9) hx hb dX0_bestIndex_78 (by decide) ?_
    exact hk9 v2 v3 v4 v5 (v7 + 1) _ (lv_sub hl [1, 2, 3, 4, 5, 6, 0] rfl) h
  have w67 : ∀ (k9 : Nat → (Nat → Int64) → Int32 → Int32 → (Nat → Int32) → Int32 → Int32 → Int32 → Int64 → Int32 → Option (Int32)) (hk9 : ∀ (v2 : Int32) (v3 : Int32) (v4 : Int32) (v5 : Int64) (v7 : Int32) (ls : Array Slot), lv_has ls 12 [(0, .ref ((a_t 0))), (1, .ref ((a_p1 0))), (2, .int v2), (3, .int v3), (4, .int v4), (5, .long v5), (7, .int v7)] → k9 t_rows_n t_rows t_size t_plies p1_cells v2 v3 v4 v5 v7 = some o → W p l e ⟨3, 0, 0, 73⟩ s m args below meth c s.heap [] 0 0 Q (F0 m 9 ls [])) (v2 : Int32) (v3 : Int32) (v7 : Int32) (v10 : Int64) (ls : Array Slot), lv_has ls 12 [(0, .ref ((a_t 0))), (1, .ref ((a_p1 0))), (2, .int v2), (3, .int v3), (7, .int v7), (10, .long v10)] → fX0_bestIndex_67 k9 t_rows_n t_rows t_size t_plies p1_cells v2 v3 v7 v10 = some o → W p l e ⟨3, 0, 0, 73⟩ s m args below meth c s.heap [] 0 0 Q (F0 m 67 ls []) := by
    intro k9 hk9 v2 v3 v7 v10 ls hl h
    unfold fX0_bestIndex_67 at h
    refine lv_iload hx hb dX0_bestIndex_67 (lv_at hl 4 rfl) ?_
    refine lv_istore (lv' := [(4, .int v7), (0, .ref ((a_t 0))), (1, .ref ((a_p1 0))), (2, .int v2), (3, .int v3), (7, .int v7), (10, .long v10)]) hx hb dX0_bestIndex_69 hl (by decide) rfl (fun ls hl => ?_)
    refine lv_lload hx hb dX0_bestIndex_71 (lv_at hl 6 rfl) ?_
    refine lv_lstore (lv' := [(5, .long v10), (4, .int v7), (0, .ref ((a_t 0))), (1, .ref ((a_p1 0))), (2, .int v2), (3, .int v3), (7, .int v7), (10, .long v10)]) hx hb dX0_bestIndex_73 hl (by decide) rfl (fun ls hl => ?_)
    exact w75 _ hk9 v2 v3 v7 v10 v7 _ (lv_sub hl [2, 3, 4, 5, 1, 0, 6] rfl) h
  have w51 : ∀ (k9 : Nat → (Nat → Int64) → Int32 → Int32 → (Nat → Int32) → Int32 → Int32 → Int32 → Int64 → Int32 → Option (Int32)) (hk9 : ∀ (v2 : Int32) (v3 : Int32) (v4 : Int32) (v5 : Int64) (v7 : Int32) (ls : Array Slot), lv_has ls 12 [(0, .ref ((a_t 0))), (1, .ref ((a_p1 0))), (2, .int v2), (3, .int v3), (4, .int v4), (5, .long v5), (7, .int v7)] → k9 t_rows_n t_rows t_size t_plies p1_cells v2 v3 v4 v5 v7 = some o → W p l e ⟨3, 0, 0, 73⟩ s m args below meth c s.heap [] 0 0 Q (F0 m 9 ls [])) (v2 : Int32) (v3 : Int32) (v4 : Int32) (v5 : Int64) (v7 : Int32) (z0 : Int64) (ls : Array Slot), lv_has ls 12 [(0, .ref ((a_t 0))), (1, .ref ((a_p1 0))), (2, .int v2), (3, .int v3), (4, .int v4), (5, .long v5), (7, .int v7)] → fX0_bestIndex_51 k9 t_rows_n t_rows t_size t_plies p1_cells v2 v3 v4 v5 v7 z0 = some o → W p l e ⟨3, 0, 0, 73⟩ s m args below meth c s.heap [] 0 0 Q (F0 m 51 ls [.long z0]) := by
    intro k9 hk9 v2 v3 v4 v5 v7 z0 ls hl h
    unfold fX0_bestIndex_51 at h
    refine lv_lstore (lv' := [(10, .long z0), (0, .ref ((a_t 0))), (1, .ref ((a_p1 0))), (2, .int v2), (3, .int v3), (4, .int v4), (5, .long v5), (7, .int v7)]) hx hb dX0_bestIndex_51 hl (by decide) rfl (fun ls hl => ?_)
    refine lv_iload hx hb dX0_bestIndex_53 (lv_at hl 5 rfl) ?_
    refine lv_iconst (v := -1) hx hb dX0_bestIndex_55 (by decide) ?_
    refine lv_icmp_eq (tgt := 67) hx hb dX0_bestIndex_56 (by decide) (fun c9 => ?_) (fun c9 => ?_)
    · have h := itp c9 h
      exact w67 _ hk9 v2 v3 v7 z0 _ (lv_sub hl [1, 2, 3, 4, 7, 0] rfl) h
    · have h := itn c9 h
      refine lv_lload hx hb dX0_bestIndex_59 (lv_at hl 0 rfl) ?_
      refine lv_lload hx hb dX0_bestIndex_61 (lv_at hl 6 rfl) ?_
      refine W.lcmp hx hb dX0_bestIndex_63 ?_
      refine lv_if_le (tgt := 75) hx hb dX0_bestIndex_64 (by decide) (fun c10 => ?_) (fun c10 => ?_)
      · have h := itp c10 h
        exact w75 _ hk9 v2 v3 v4 v5 v7 _ (lv_sub hl [1, 2, 3, 4, 5, 6, 7] rfl) h
      · have h := itn c10 h
        exact w67 _ hk9 v2 v3 v7 z0 _ (lv_sub hl [1, 2, 3, 4, 7, 0] rfl) h
  have w9 : ∀ (n : Nat) (v2 : Int32) (v3 : Int32) (v4 : Int32) (v5 : Int64) (v7 : Int32) (ls : Array Slot), lv_has ls 12 [(0, .ref ((a_t 0))), (1, .ref ((a_p1 0))), (2, .int v2), (3, .int v3), (4, .int v4), (5, .long v5), (7, .int v7)] → fX0_bestIndex_9  n t_rows_n t_rows t_size t_plies p1_cells v2 v3 v4 v5 v7 = some o → W p l e ⟨3, 0, 0, 73⟩ s m args below meth c s.heap [] 0 0 Q (F0 m 9 ls []) := by
    intro n
    induction n with
    | zero => intro v2 v3 v4 v5 v7 ls hl h; cases (fX0_bestIndex_9_z  t_rows_n t_rows t_size t_plies p1_cells v2 v3 v4 v5 v7).symm.trans h
    | succ n ih =>
    intro v2 v3 v4 v5 v7 ls hl h
    have h := (fX0_bestIndex_9_s  n t_rows_n t_rows t_size t_plies p1_cells v2 v3 v4 v5 v7).symm.trans h
    refine lv_iload hx hb dX0_bestIndex_9 (lv_at hl 6 rfl) ?_
    refine lv_aload_n hx hb dX0_bestIndex_11 rfl (lv_at hl 0 rfl) ?_
    refine xa_get (C := RX0) (T := TX0) (N := 7) cx hG hP 0 rfl rfl uX0 2 (by decide) lf_X0_49 rfl dX0_bestIndex_12 ?_
    refine lv_icmp_ge (tgt := 81) hx hb dX0_bestIndex_15 (by decide) (fun c1 => ?_) (fun c1 => ?_)
    · have h := itp c1 h
      refine lv_iload hx hb dX0_bestIndex_81 (lv_at hl 4 rfl) ?_
      exact hret _ _ _ dX0_bestIndex_83 (Option.some.inj h)
    · have h := itn c1 h
      refine lv_aload_n hx hb dX0_bestIndex_18 rfl (lv_at hl 0 rfl) ?_
      refine lv_iload_n hx hb dX0_bestIndex_19 rfl (lv_at hl 2 rfl) ?_
      refine lv_iload hx hb dX0_bestIndex_20 (lv_at hl 6 rfl) ?_
      obtain ⟨r2, hr3, h⟩ := bnd h
      refine ro_z (runV (As := [.int v2, .int v7]) (rest := []) cx hl.1 (ctX0_isAmong l g a_t b_t_rows b_t_seen t_size t_ready t_pool t_plies t_room t_rows_n t_rows v2 v7 r2 hr3) kmX0_isAmong kvX0_isAmong lm_X0_103 ⟨rfl, rfl⟩ ⟨Nat.le_of_ble_eq_true rfl, Nat.le_of_ble_eq_true rfl⟩ (roV (q0 := 0) (ci := 0) hG (hP.sub [0, 1] rfl) hP rfl rfl) rfl rfl (Nat.le_of_ble_eq_true rfl) dX0_bestIndex_22 ⟨Nat.le_of_ble_eq_true rfl, Nat.le_of_ble_eq_true rfl⟩) (fun hz4 => ?_)
      refine lv_if_eq (tgt := 75) hx hb dX0_bestIndex_25 (by decide) (fun c5 => ?_) (fun c5 => ?_)
      · have h := itp c5 h
        exact w75 _ ih v2 v3 v4 v5 v7 _ (lv_sub hl [0, 1, 2, 3, 4, 5, 6] rfl) h
      · have h := itn c5 h
        refine lv_aload_n hx hb dX0_bestIndex_28 rfl (lv_at hl 0 rfl) ?_
        refine lv_aload_n hx hb dX0_bestIndex_29 rfl (lv_at hl 1 rfl) ?_
        refine lv_iload hx hb dX0_bestIndex_30 (lv_at hl 6 rfl) ?_
        refine lv_iload_n hx hb dX0_bestIndex_32 rfl (lv_at hl 3 rfl) ?_
        obtain ⟨r6, hr7, h⟩ := bnd h
        refine ro_l (runV (As := [.ref ((a_p1 0)), .int v7, .int v3]) (rest := []) cx hl.1 (ctX0_merit l g a_t a_p1 b_t_rows b_t_seen t_size t_ready t_pool t_plies t_room t_rows_n t_rows p1_told p1_lines p1_kinds p1_acts p1_cells v7 v3 r6 hr7) kmX0_merit kvX0_merit lm_X0_116 ⟨rfl, rfl⟩ ⟨Nat.le_of_ble_eq_true rfl, Nat.le_of_ble_eq_true rfl⟩ (roV (q0 := 0) (ci := 0) hG (hP.sub [0, 1, 2, 3] rfl) hP rfl rfl) rfl rfl (Nat.le_of_ble_eq_true rfl) dX0_bestIndex_33 ⟨Nat.le_of_ble_eq_true rfl, Nat.le_of_ble_eq_true rfl⟩) ?_
        refine lv_lstore (lv' := [(8, .long r6), (0, .ref ((a_t 0))), (1, .ref ((a_p1 0))), (2, .int v2), (3, .int v3), (4, .int v4), (5, .long v5), (7, .int v7)]) hx hb dX0_bestIndex_36 hl (by decide) rfl (fun ls hl => ?_)
        refine lv_iload_n hx hb dX0_bestIndex_38 rfl (lv_at hl 4 rfl) ?_
        refine lv_iconst (v := 3) hx hb dX0_bestIndex_39 (by decide) ?_
        refine lv_icmp_ne (tgt := 49) hx hb dX0_bestIndex_40 (by decide) (fun c8 => ?_) (fun c8 => ?_)
        · have h := itn c8 h
          refine lv_lload hx hb dX0_bestIndex_49 (lv_at hl 0 rfl) ?_
          exact w51 _ ih v2 v3 v4 v5 v7 r6 _ (lv_sub hl [1, 2, 3, 4, 5, 6, 7] rfl) h
        · have h := itp c8 h
          refine lv_lload hx hb dX0_bestIndex_43 (lv_at hl 0 rfl) ?_
          refine lv_lneg hx hb dX0_bestIndex_45 ?_
          refine lv_goto (tgt := 51) hx hb dX0_bestIndex_46 (by decide) ?_
          exact w51 _ ih v2 v3 v4 v5 v7 (-r6) _ (lv_sub hl [1, 2, 3, 4, 5, 6, 7] rfl) h
  unfold fX0_bestIndex at h
  refine lv_iconst (v := -1) hx hb dX0_bestIndex_0 (by decide) ?_
  refine lv_istore (lv' := [(4, .int (-1)), (0, .ref ((a_t 0))), (1, .ref ((a_p1 0))), (2, .int v2), (3, .int v3)]) hx hb dX0_bestIndex_1 hl (by decide) rfl (fun ls hl => ?_)
  refine lv_lconst (v := 0) hx hb dX0_bestIndex_3 (by decide) ?_
  refine lv_lstore (lv' := [(5, .long (0)), (4, .int (-1)), (0, .ref ((a_t 0))), (1, .ref ((a_p1 0))), (2, .int v2), (3, .int v3)]) hx hb dX0_bestIndex_4 hl (by decide) rfl (fun ls hl => ?_)
  refine lv_iconst (v := 0) hx hb dX0_bestIndex_6 (by decide) ?_
  refine lv_istore (lv' := [(7, .int (0)), (5, .long (0)), (4, .int (-1)), (0, .ref ((a_t 0))), (1, .ref ((a_p1 0))), (2, .int v2), (3, .int v3)]) hx hb dX0_bestIndex_7 hl (by decide) rfl (fun ls hl => ?_)
  exact w9 FU v2 v3 (-1) 0 0 _ (lv_sub hl [3, 4, 5, 6, 2, 1, 0] rfl) h
-- X0_nearestIndex
theorem dX0_nearestIndex_0 : decode cX0_nearestIndex 0 = .ok (.iconst (-1), 1) := by decide +kernel
theorem dX0_nearestIndex_1 : decode cX0_nearestIndex 1 = .ok (.istore_n 3, 1) := by decide +kernel
theorem dX0_nearestIndex_2 : decode cX0_nearestIndex 2 = .ok (.bipush 9, 2) := by decide +kernel
theorem dX0_nearestIndex_4 : decode cX0_nearestIndex 4 = .ok (.istore 4, 2) := by decide +kernel
theorem dX0_nearestIndex_6 : decode cX0_nearestIndex 6 = .ok (.iconst 0, 1) := by decide +kernel
theorem dX0_nearestIndex_7 : decode cX0_nearestIndex 7 = .ok (.istore 5, 2) := by decide +kernel
theorem dX0_nearestIndex_9 : decode cX0_nearestIndex 9 = .ok (.iload 5, 2) := by decide +kernel
theorem dX0_nearestIndex_11 : decode cX0_nearestIndex 11 = .ok (.aload_n 0, 1) := by decide +kernel
theorem dX0_nearestIndex_12 : decode cX0_nearestIndex 12 = .ok (.getfield 49, 3) := by decide +kernel
theorem dX0_nearestIndex_15 : decode cX0_nearestIndex 15 = .ok (.if_icmp .ge 49, 3) := by decide +kernel
theorem dX0_nearestIndex_18 : decode cX0_nearestIndex 18 = .ok (.aload_n 0, 1) := by decide +kernel
theorem dX0_nearestIndex_19 : decode cX0_nearestIndex 19 = .ok (.iload_n 1, 1) := by decide +kernel
theorem dX0_nearestIndex_20 : decode cX0_nearestIndex 20 = .ok (.iload 5, 2) := by decide +kernel
theorem dX0_nearestIndex_22 : decode cX0_nearestIndex 22 = .ok (.invokevirtual 103, 3) := by decide +kernel
theorem dX0_nearestIndex_25 : decode cX0_nearestIndex 25 = .ok (.ifCond .eq 33, 3) := by decide +kernel
theorem dX0_nearestIndex_28 : decode cX0_nearestIndex 28 = .ok (.aload_n 0, 1) := by decide +kernel
theorem dX0_nearestIndex_29 : decode cX0_nearestIndex 29 = .ok (.iload 5, 2) := by decide +kernel
theorem dX0_nearestIndex_31 : decode cX0_nearestIndex 31 = .ok (.invokevirtual 106, 3) := by decide +kernel
theorem dX0_nearestIndex_34 : decode cX0_nearestIndex 34 = .ok (.iload_n 2, 1) := by decide +kernel
theorem dX0_nearestIndex_35 : decode cX0_nearestIndex 35 = .ok (.aload_n 0, 1) := by decide +kernel
theorem dX0_nearestIndex_36 : decode cX0_nearestIndex 36 = .ok (.getfield 41, 3) := by decide +kernel
theorem dX0_nearestIndex_39 : decode cX0_nearestIndex 39 = .ok (.invokestatic 120, 3) := by decide +kernel
theorem dX0_nearestIndex_42 : decode cX0_nearestIndex 42 = .ok (.istore 6, 2) := by decide +kernel
theorem dX0_nearestIndex_44 : decode cX0_nearestIndex 44 = .ok (.iload 6, 2) := by decide +kernel
theorem dX0_nearestIndex_46 : decode cX0_nearestIndex 46 = .ok (.iload 4, 2) := by decide +kernel
theorem dX0_nearestIndex_48 : decode cX0_nearestIndex 48 = .ok (.if_icmp .ge 10, 3) := by decide +kernel
theorem dX0_nearestIndex_51 : decode cX0_nearestIndex 51 = .ok (.iload 5, 2) := by decide +kernel
theorem dX0_nearestIndex_53 : decode cX0_nearestIndex 53 = .ok (.istore_n 3, 1) := by decide +kernel
theorem dX0_nearestIndex_54 : decode cX0_nearestIndex 54 = .ok (.iload 6, 2) := by decide +kernel
theorem dX0_nearestIndex_56 : decode cX0_nearestIndex 56 = .ok (.istore 4, 2) := by decide +kernel
theorem dX0_nearestIndex_58 : decode cX0_nearestIndex 58 = .ok (.iinc 5 1, 3) := by decide +kernel
theorem dX0_nearestIndex_61 : decode cX0_nearestIndex 61 = .ok (.goto (-52), 3) := by decide +kernel
theorem dX0_nearestIndex_64 : decode cX0_nearestIndex 64 = .ok (.iload_n 3, 1) := by decide +kernel
theorem dX0_nearestIndex_65 : decode cX0_nearestIndex 65 = .ok (.ireturn, 1) := by decide +kernel
noncomputable def fX0_nearestIndex_58 (k9 : Nat → (Nat → Int64) → Int32 → Int32 → Int32 → Int32 → Int32 → Int32 → Int32 → Option (Int32)) (t_rows_n : Nat) (t_rows : Nat → Int64) (t_size : Int32) (t_plies : Int32) (v1 : Int32) (v2 : Int32) (v3 : Int32) (v4 : Int32) (v5 : Int32) : Option (Int32) := k9 t_rows_n t_rows t_size t_plies v1 v2 v3 v4 (v5 + 1)
noncomputable def fX0_nearestIndex_9  : Nat → Nat → (Nat → Int64) → Int32 → Int32 → Int32 → Int32 → Int32 → Int32 → Int32 → Option (Int32)
  | 0, _, _, _, _, _, _, _, _, _ => none
  | n + 1, t_rows_n, t_rows, t_size, t_plies, v1, v2, v3, v4, v5 => (if t_size ≤ v5 then some v3 else (fX0_isAmong t_rows_n t_rows v1 v5).bind fun r2 => (if r2 = 0 then fX0_nearestIndex_58 (fX0_nearestIndex_9 n) t_rows_n t_rows t_size t_plies v1 v2 v3 v4 v5 else (fX0_rowAt t_rows_n t_rows v5).bind fun r6 => (fX3_unlikePlaces r6 v2 t_plies).bind fun r8 => (if v4 ≤ r8 then fX0_nearestIndex_58 (fX0_nearestIndex_9 n) t_rows_n t_rows t_size t_plies v1 v2 v3 v4 v5 else fX0_nearestIndex_58 (fX0_nearestIndex_9 n) t_rows_n t_rows t_size t_plies v1 v2 v5 r8 v5)))
theorem fX0_nearestIndex_9_z  (t_rows_n : Nat) (t_rows : Nat → Int64) (t_size : Int32) (t_plies : Int32) (v1 : Int32) (v2 : Int32) (v3 : Int32) (v4 : Int32) (v5 : Int32) : fX0_nearestIndex_9  0 t_rows_n t_rows t_size t_plies v1 v2 v3 v4 v5 = none := rfl
theorem fX0_nearestIndex_9_s  (n : Nat) (t_rows_n : Nat) (t_rows : Nat → Int64) (t_size : Int32) (t_plies : Int32) (v1 : Int32) (v2 : Int32) (v3 : Int32) (v4 : Int32) (v5 : Int32) : fX0_nearestIndex_9  (n + 1) t_rows_n t_rows t_size t_plies v1 v2 v3 v4 v5 = (if t_size ≤ v5 then some v3 else (fX0_isAmong t_rows_n t_rows v1 v5).bind fun r2 => (if r2 = 0 then fX0_nearestIndex_58 (fX0_nearestIndex_9 n) t_rows_n t_rows t_size t_plies v1 v2 v3 v4 v5 else (fX0_rowAt t_rows_n t_rows v5).bind fun r6 => (fX3_unlikePlaces r6 v2 t_plies).bind fun r8 => (if v4 ≤ r8 then fX0_nearestIndex_58 (fX0_nearestIndex_9 n) t_rows_n t_rows t_size t_plies v1 v2 v3 v4 v5 else fX0_nearestIndex_58 (fX0_nearestIndex_9 n) t_rows_n t_rows t_size t_plies v1 v2 v5 r8 v5))) := rfl
noncomputable def fX0_nearestIndex  (t_rows_n : Nat) (t_rows : Nat → Int64) (t_size : Int32) (t_plies : Int32) (v1 : Int32) (v2 : Int32) : Option (Int32) := fX0_nearestIndex_9 FU t_rows_n t_rows t_size t_plies v1 v2 (-1) 9 0
set_option maxHeartbeats 4000000 in
set_option maxRecDepth 100000 in
theorem ctX0_nearestIndex (l : Launch) (g : GT) (a_t : Nat → Nat) (b_t_rows : Nat) (b_t_seen : Nat) (t_size : Int32) (t_ready : Int32) (t_pool : Int32) (t_plies : Int32) (t_room : Int32) (t_rows_n : Nat) (t_rows : Nat → Int64) (v1 : Int32) (v2 : Int32) (o : Int32) (h : fX0_nearestIndex t_rows_n t_rows t_size t_plies v1 v2 = some o) : Met l yX0_nearestIndex (Cond.code yX0_nearestIndex cX0_nearestIndex 7 (some .int) :: Tw) ⟨2, 0, 0, 45⟩ (va_Pc [.ref ((a_t 0)), .int v1, .int v2] (roB g [((a_t 0), .inr (0, [.ref b_t_rows, .ref b_t_seen, .int t_size, .int t_ready, .int t_pool, .int t_plies, .int t_room])), (b_t_rows, .inl (g.2.2.1 1, t_rows_n, .inr (.inl t_rows)))])) (vp_Si (fun x => x = o)) 0 0 (fun _ => False) := by
  refine ro_meti (by decide) (Nat.le_of_ble_eq_true rfl) (lv0 := [(0, .ref ((a_t 0))), (1, .int v1), (2, .int v2)]) rfl ?_
  intro p e s m args below meth c ls Q cx hret hG hP hl
  have hx := cx.1
  have hb := cx.2.1
  have hG0 := hG
  have w58 : ∀ (k9 : Nat → (Nat → Int64) → Int32 → Int32 → Int32 → Int32 → Int32 → Int32 → Int32 → Option (Int32)) (hk9 : ∀ (v1 : Int32) (v2 : Int32) (v3 : Int32) (v4 : Int32) (v5 : Int32) (ls : Array Slot), lv_has ls 7 [(0, .ref ((a_t 0))), (1, .int v1), (2, .int v2), (3, .int v3), (4, .int v4), (5, .int v5)] → k9 t_rows_n t_rows t_size t_plies v1 v2 v3 v4 v5 = some o → W p l e ⟨2, 0, 0, 45⟩ s m args below meth c s.heap [] 0 0 Q (F0 m 9 ls [])) (v1 : Int32) (v2 : Int32) (v3 : Int32) (v4 : Int32) (v5 : Int32) (ls : Array Slot), lv_has ls 7 [(0, .ref ((a_t 0))), (1, .int v1), (2, .int v2), (3, .int v3), (4, .int v4), (5, .int v5)] → fX0_nearestIndex_58 k9 t_rows_n t_rows t_size t_plies v1 v2 v3 v4 v5 = some o → W p l e ⟨2, 0, 0, 45⟩ s m args below meth c s.heap [] 0 0 Q (F0 m 58 ls []) := by
    intro k9 hk9 v1 v2 v3 v4 v5 ls hl h
    unfold fX0_nearestIndex_58 at h
    refine lv_iinc (v := v5 + 1) (lv' := [(5, .int (v5 + 1)), (0, .ref ((a_t 0))), (1, .int v1), (2, .int v2), (3, .int v3), (4, .int v4)]) hx hb dX0_nearestIndex_58 hl (k := 5) rfl rfl (by decide) rfl (fun ls hl => ?_)
    refine lv_goto (tgt := 9) hx hb dX0_nearestIndex_61 (by decide) ?_
    exact hk9 v1 v2 v3 v4 (v5 + 1) _ (lv_sub hl [1, 2, 3, 4, 5, 0] rfl) h
  have w9 : ∀ (n : Nat) (v1 : Int32) (v2 : Int32) (v3 : Int32) (v4 : Int32) (v5 : Int32) (ls : Array Slot), lv_has ls 7 [(0, .ref ((a_t 0))), (1, .int v1), (2, .int v2), (3, .int v3), (4, .int v4), (5, .int v5)] → fX0_nearestIndex_9  n t_rows_n t_rows t_size t_plies v1 v2 v3 v4 v5 = some o → W p l e ⟨2, 0, 0, 45⟩ s m args below meth c s.heap [] 0 0 Q (F0 m 9 ls []) := by
    intro n
    induction n with
    | zero => intro v1 v2 v3 v4 v5 ls hl h; cases (fX0_nearestIndex_9_z  t_rows_n t_rows t_size t_plies v1 v2 v3 v4 v5).symm.trans h
    | succ n ih =>
    intro v1 v2 v3 v4 v5 ls hl h
    have h := (fX0_nearestIndex_9_s  n t_rows_n t_rows t_size t_plies v1 v2 v3 v4 v5).symm.trans h
    refine lv_iload hx hb dX0_nearestIndex_9 (lv_at hl 5 rfl) ?_
    refine lv_aload_n hx hb dX0_nearestIndex_11 rfl (lv_at hl 0 rfl) ?_
    refine xa_get (C := RX0) (T := TX0) (N := 7) cx hG hP 0 rfl rfl uX0 2 (by decide) lf_X0_49 rfl dX0_nearestIndex_12 ?_
    refine lv_icmp_ge (tgt := 64) hx hb dX0_nearestIndex_15 (by decide) (fun c1 => ?_) (fun c1 => ?_)
    · have h := itp c1 h
      refine lv_iload_n hx hb dX0_nearestIndex_64 rfl (lv_at hl 3 rfl) ?_
      exact hret _ _ _ dX0_nearestIndex_65 (Option.some.inj h)
    · have h := itn c1 h
      refine lv_aload_n hx hb dX0_nearestIndex_18 rfl (lv_at hl 0 rfl) ?_
      refine lv_iload_n hx hb dX0_nearestIndex_19 rfl (lv_at hl 1 rfl) ?_
      refine lv_iload hx hb dX0_nearestIndex_20 (lv_at hl 5 rfl) ?_
      obtain ⟨r2, hr3, h⟩ := bnd h
      refine ro_z (runV (As := [.int v1, .int v5]) (rest := []) cx hl.1 (ctX0_isAmong l g a_t b_t_rows b_t_seen t_size t_ready t_pool t_plies t_room t_rows_n t_rows v1 v5 r2 hr3) kmX0_isAmong kvX0_isAmong lm_X0_103 ⟨rfl, rfl⟩ ⟨Nat.le_of_ble_eq_true rfl, Nat.le_of_ble_eq_true rfl⟩ (roV (q0 := 0) (ci := 0) hG (hP.sub [0, 1] rfl) hP rfl rfl) rfl rfl (Nat.le_of_ble_eq_true rfl) dX0_nearestIndex_22 ⟨Nat.le_of_ble_eq_true rfl, Nat.le_of_ble_eq_true rfl⟩) (fun hz4 => ?_)
      refine lv_if_eq (tgt := 58) hx hb dX0_nearestIndex_25 (by decide) (fun c5 => ?_) (fun c5 => ?_)
      · have h := itp c5 h
        exact w58 _ ih v1 v2 v3 v4 v5 _ (lv_sub hl [0, 1, 2, 3, 4, 5] rfl) h
      · have h := itn c5 h
        refine lv_aload_n hx hb dX0_nearestIndex_28 rfl (lv_at hl 0 rfl) ?_
        refine lv_iload hx hb dX0_nearestIndex_29 (lv_at hl 5 rfl) ?_
        obtain ⟨r6, hr7, h⟩ := bnd h
        refine ro_i (runV (As := [.int v5]) (rest := []) cx hl.1 (ctX0_rowAt l g a_t b_t_rows b_t_seen t_size t_ready t_pool t_plies t_room t_rows_n t_rows v5 r6 hr7) kmX0_rowAt kvX0_rowAt lm_X0_106 ⟨rfl, rfl⟩ ⟨Nat.le_of_ble_eq_true rfl, Nat.le_of_ble_eq_true rfl⟩ (roV (q0 := 0) (ci := 0) hG (hP.sub [0, 1] rfl) hP rfl rfl) rfl rfl (Nat.le_of_ble_eq_true rfl) dX0_nearestIndex_31 ⟨Nat.le_of_ble_eq_true rfl, Nat.le_of_ble_eq_true rfl⟩) ?_
        refine lv_iload_n hx hb dX0_nearestIndex_34 rfl (lv_at hl 2 rfl) ?_
        refine lv_aload_n hx hb dX0_nearestIndex_35 rfl (lv_at hl 0 rfl) ?_
        refine xa_get (C := RX0) (T := TX0) (N := 7) cx hG hP 0 rfl rfl uX0 5 (by decide) lf_X0_41 rfl dX0_nearestIndex_36 ?_
        obtain ⟨r8, hr9, h⟩ := bnd h
        refine ro_i (runSN (As := [.int r6, .int v2, .int t_plies]) (rest := []) hG cx hl.1 (ctX3_unlikePlaces l g r6 v2 t_plies r8 hr9) kmX3_unlikePlaces ksX3_unlikePlaces nm_76 ⟨rfl, rfl⟩ ⟨Nat.le_of_ble_eq_true rfl, Nat.le_of_ble_eq_true rfl⟩ (roS hG (hP.sub [] rfl)) rfl rfl (Nat.le_of_ble_eq_true rfl) dX0_nearestIndex_39 ⟨Nat.le_of_ble_eq_true rfl, Nat.le_of_ble_eq_true rfl⟩) ?_
        refine lv_istore (lv' := [(6, .int r8), (0, .ref ((a_t 0))), (1, .int v1), (2, .int v2), (3, .int v3), (4, .int v4), (5, .int v5)]) hx hb dX0_nearestIndex_42 hl (by decide) rfl (fun ls hl => ?_)
        refine lv_iload hx hb dX0_nearestIndex_44 (lv_at hl 0 rfl) ?_
        refine lv_iload hx hb dX0_nearestIndex_46 (lv_at hl 5 rfl) ?_
        refine lv_icmp_ge (tgt := 58) hx hb dX0_nearestIndex_48 (by decide) (fun c10 => ?_) (fun c10 => ?_)
        · have h := itp c10 h
          exact w58 _ ih v1 v2 v3 v4 v5 _ (lv_sub hl [1, 2, 3, 4, 5, 6] rfl) h
        · have h := itn c10 h
          refine lv_iload hx hb dX0_nearestIndex_51 (lv_at hl 6 rfl) ?_
          refine lv_istore_n (lv' := [(3, .int v5), (6, .int r8), (0, .ref ((a_t 0))), (1, .int v1), (2, .int v2), (4, .int v4), (5, .int v5)]) hx hb dX0_nearestIndex_53 rfl hl (by decide) rfl (fun ls hl => ?_)
          refine lv_iload hx hb dX0_nearestIndex_54 (lv_at hl 1 rfl) ?_
          refine lv_istore (lv' := [(4, .int r8), (3, .int v5), (6, .int r8), (0, .ref ((a_t 0))), (1, .int v1), (2, .int v2), (5, .int v5)]) hx hb dX0_nearestIndex_56 hl (by decide) rfl (fun ls hl => ?_)
          exact w58 _ ih v1 v2 v5 r8 v5 _ (lv_sub hl [3, 4, 5, 1, 0, 6] rfl) h
  unfold fX0_nearestIndex at h
  refine lv_iconst (v := -1) hx hb dX0_nearestIndex_0 (by decide) ?_
  refine lv_istore_n (lv' := [(3, .int (-1)), (0, .ref ((a_t 0))), (1, .int v1), (2, .int v2)]) hx hb dX0_nearestIndex_1 rfl hl (by decide) rfl (fun ls hl => ?_)
  refine lv_bipush (v := 9) hx hb dX0_nearestIndex_2 (by decide) ?_
  refine lv_istore (lv' := [(4, .int (9)), (3, .int (-1)), (0, .ref ((a_t 0))), (1, .int v1), (2, .int v2)]) hx hb dX0_nearestIndex_4 hl (by decide) rfl (fun ls hl => ?_)
  refine lv_iconst (v := 0) hx hb dX0_nearestIndex_6 (by decide) ?_
  refine lv_istore (lv' := [(5, .int (0)), (4, .int (9)), (3, .int (-1)), (0, .ref ((a_t 0))), (1, .int v1), (2, .int v2)]) hx hb dX0_nearestIndex_7 hl (by decide) rfl (fun ls hl => ?_)
  exact w9 FU v1 v2 (-1) 9 0 _ (lv_sub hl [3, 4, 5, 2, 1, 0] rfl) h
-- X0_bendKey
theorem dX0_bendKey_0 : decode cX0_bendKey 0 = .ok (.lconst 0, 1) := by decide +kernel
theorem dX0_bendKey_1 : decode cX0_bendKey 1 = .ok (.lstore_n 3, 1) := by decide +kernel
theorem dX0_bendKey_2 : decode cX0_bendKey 2 = .ok (.iconst 0, 1) := by decide +kernel
theorem dX0_bendKey_3 : decode cX0_bendKey 3 = .ok (.istore 5, 2) := by decide +kernel
theorem dX0_bendKey_5 : decode cX0_bendKey 5 = .ok (.iload 5, 2) := by decide +kernel
theorem dX0_bendKey_7 : decode cX0_bendKey 7 = .ok (.iconst 3, 1) := by decide +kernel
theorem dX0_bendKey_8 : decode cX0_bendKey 8 = .ok (.if_icmp .ge 38, 3) := by decide +kernel
theorem dX0_bendKey_11 : decode cX0_bendKey 11 = .ok (.aload_n 1, 1) := by decide +kernel
theorem dX0_bendKey_12 : decode cX0_bendKey 12 = .ok (.iload_n 2, 1) := by decide +kernel
theorem dX0_bendKey_13 : decode cX0_bendKey 13 = .ok (.aload_n 0, 1) := by decide +kernel
theorem dX0_bendKey_14 : decode cX0_bendKey 14 = .ok (.getfield 41, 3) := by decide +kernel
theorem dX0_bendKey_17 : decode cX0_bendKey 17 = .ok (.iconst 0, 1) := by decide +kernel
theorem dX0_bendKey_18 : decode cX0_bendKey 18 = .ok (.iconst 2, 1) := by decide +kernel
theorem dX0_bendKey_19 : decode cX0_bendKey 19 = .ok (.iconst 4, 1) := by decide +kernel
theorem dX0_bendKey_20 : decode cX0_bendKey 20 = .ok (.iload 5, 2) := by decide +kernel
theorem dX0_bendKey_22 : decode cX0_bendKey 22 = .ok (.imul, 1) := by decide +kernel
theorem dX0_bendKey_23 : decode cX0_bendKey 23 = .ok (.invokevirtual 112, 3) := by decide +kernel
theorem dX0_bendKey_26 : decode cX0_bendKey 26 = .ok (.ldc2_w 138, 3) := by decide +kernel
theorem dX0_bendKey_29 : decode cX0_bendKey 29 = .ok (.ladd, 1) := by decide +kernel
theorem dX0_bendKey_30 : decode cX0_bendKey 30 = .ok (.lstore 6, 2) := by decide +kernel
theorem dX0_bendKey_32 : decode cX0_bendKey 32 = .ok (.lload_n 3, 1) := by decide +kernel
theorem dX0_bendKey_33 : decode cX0_bendKey 33 = .ok (.bipush 21, 2) := by decide +kernel
theorem dX0_bendKey_35 : decode cX0_bendKey 35 = .ok (.lshl, 1) := by decide +kernel
theorem dX0_bendKey_36 : decode cX0_bendKey 36 = .ok (.lload 6, 2) := by decide +kernel
theorem dX0_bendKey_38 : decode cX0_bendKey 38 = .ok (.lor, 1) := by decide +kernel
theorem dX0_bendKey_39 : decode cX0_bendKey 39 = .ok (.lstore_n 3, 1) := by decide +kernel
theorem dX0_bendKey_40 : decode cX0_bendKey 40 = .ok (.iinc 5 1, 3) := by decide +kernel
theorem dX0_bendKey_43 : decode cX0_bendKey 43 = .ok (.goto (-38), 3) := by decide +kernel
theorem dX0_bendKey_46 : decode cX0_bendKey 46 = .ok (.lload_n 3, 1) := by decide +kernel
theorem dX0_bendKey_47 : decode cX0_bendKey 47 = .ok (.lreturn, 1) := by decide +kernel
noncomputable def fX0_bendKey_5  : Nat → Int32 → (Nat → Int32) → Int32 → Int64 → Int32 → Option (Int64)
  | 0, _, _, _, _, _ => none
  | n + 1, t_plies, p1_cells, v2, v3, v5 => (if 3 ≤ v5 then some v3 else (fX1_totalOf p1_cells v2 t_plies 0 2 (4 * v5)).bind fun r2 => fX0_bendKey_5 n t_plies p1_cells v2 ((lshl v3 21) ||| (r2 + 1048576)) (v5 + 1))
theorem fX0_bendKey_5_z  (t_plies : Int32) (p1_cells : Nat → Int32) (v2 : Int32) (v3 : Int64) (v5 : Int32) : fX0_bendKey_5  0 t_plies p1_cells v2 v3 v5 = none := rfl
theorem fX0_bendKey_5_s  (n : Nat) (t_plies : Int32) (p1_cells : Nat → Int32) (v2 : Int32) (v3 : Int64) (v5 : Int32) : fX0_bendKey_5  (n + 1) t_plies p1_cells v2 v3 v5 = (if 3 ≤ v5 then some v3 else (fX1_totalOf p1_cells v2 t_plies 0 2 (4 * v5)).bind fun r2 => fX0_bendKey_5 n t_plies p1_cells v2 ((lshl v3 21) ||| (r2 + 1048576)) (v5 + 1)) := rfl
noncomputable def fX0_bendKey  (t_plies : Int32) (p1_cells : Nat → Int32) (v2 : Int32) : Option (Int64) := fX0_bendKey_5 FU t_plies p1_cells v2 0 0
set_option maxHeartbeats 4000000 in
set_option maxRecDepth 100000 in
theorem ctX0_bendKey (l : Launch) (g : GT) (a_t : Nat → Nat) (a_p1 : Nat → Nat) (b_t_rows : Nat) (b_t_seen : Nat) (t_size : Int32) (t_ready : Int32) (t_pool : Int32) (t_plies : Int32) (t_room : Int32) (p1_told : Int32) (p1_lines : Int32) (p1_kinds : Int32) (p1_acts : Int32) (p1_cells : Nat → Int32) (v2 : Int32) (o : Int64) (h : fX0_bendKey t_plies p1_cells v2 = some o) : Met l yX0_bendKey (Cond.code yX0_bendKey cX0_bendKey 8 (some .long) :: Tw) ⟨2, 0, 0, 50⟩ (va_Pc [.ref ((a_t 0)), .ref ((a_p1 0)), .int v2] (roB g [((a_t 0), .inr (0, [.ref b_t_rows, .ref b_t_seen, .int t_size, .int t_ready, .int t_pool, .int t_plies, .int t_room])), ((a_p1 0), .inr (1, [.ref (a_p1 1), .ref (a_p1 2), .ref (a_p1 3), .ref (a_p1 4), .ref (a_p1 5), .int p1_told, .int p1_lines, .int p1_kinds, .int p1_acts])), ((a_p1 2), .inl (g.2.2.1 0, 144, .inl p1_cells))])) (vp_Sl (fun x => x = o)) 0 0 (fun _ => False) := by
  refine ro_metl (by decide) (Nat.le_of_ble_eq_true rfl) (lv0 := [(0, .ref ((a_t 0))), (1, .ref ((a_p1 0))), (2, .int v2)]) rfl ?_
  intro p e s m args below meth c ls Q cx hret hG hP hl
  have hx := cx.1
  have hb := cx.2.1
  have hG0 := hG
  have w5 : ∀ (n : Nat) (v2 : Int32) (v3 : Int64) (v5 : Int32) (ls : Array Slot), lv_has ls 8 [(0, .ref ((a_t 0))), (1, .ref ((a_p1 0))), (2, .int v2), (3, .long v3), (5, .int v5)] → fX0_bendKey_5  n t_plies p1_cells v2 v3 v5 = some o → W p l e ⟨2, 0, 0, 50⟩ s m args below meth c s.heap [] 0 0 Q (F0 m 5 ls []) := by
    intro n
    induction n with
    | zero => intro v2 v3 v5 ls hl h; cases (fX0_bendKey_5_z  t_plies p1_cells v2 v3 v5).symm.trans h
    | succ n ih =>
    intro v2 v3 v5 ls hl h
    have h := (fX0_bendKey_5_s  n t_plies p1_cells v2 v3 v5).symm.trans h
    refine lv_iload hx hb dX0_bendKey_5 (lv_at hl 4 rfl) ?_
    refine lv_iconst (v := 3) hx hb dX0_bendKey_7 (by decide) ?_
    refine lv_icmp_ge (tgt := 46) hx hb dX0_bendKey_8 (by decide) (fun c1 => ?_) (fun c1 => ?_)
    · have h := itp c1 h
      refine lv_lload_n hx hb dX0_bendKey_46 rfl (lv_at hl 3 rfl) ?_
      exact hret _ _ _ dX0_bendKey_47 (Option.some.inj h)
    · have h := itn c1 h
      refine lv_aload_n hx hb dX0_bendKey_11 rfl (lv_at hl 1 rfl) ?_
      refine lv_iload_n hx hb dX0_bendKey_12 rfl (lv_at hl 2 rfl) ?_
      refine lv_aload_n hx hb dX0_bendKey_13 rfl (lv_at hl 0 rfl) ?_
      refine xa_get (C := RX0) (T := TX0) (N := 7) cx hG hP 0 rfl rfl uX0 5 (by decide) lf_X0_41 rfl dX0_bendKey_14 ?_
      refine lv_iconst (v := 0) hx hb dX0_bendKey_17 (by decide) ?_
      refine lv_iconst (v := 2) hx hb dX0_bendKey_18 (by decide) ?_
      refine lv_iconst (v := 4) hx hb dX0_bendKey_19 (by decide) ?_
      refine lv_iload hx hb dX0_bendKey_20 (lv_at hl 4 rfl) ?_
      refine lv_imul hx hb dX0_bendKey_22 ?_
      obtain ⟨r2, hr3, h⟩ := bnd h
      refine ro_l (runVN (As := [.int v2, .int t_plies, .int (0), .int (2), .int (4 * v5)]) (rest := []) hG cx hl.1 (ctX1_totalOf l g a_p1 p1_told p1_lines p1_kinds p1_acts p1_cells v2 t_plies (0) (2) (4 * v5) r2 hr3) kmX1_totalOf kvX1_totalOf nm_72 ⟨rfl, rfl⟩ ⟨Nat.le_of_ble_eq_true rfl, Nat.le_of_ble_eq_true rfl⟩ (roV (q0 := 1) (ci := 1) hG (hP.sub [1, 2] rfl) hP rfl rfl) rfl rfl (Nat.le_of_ble_eq_true rfl) dX0_bendKey_23 ⟨Nat.le_of_ble_eq_true rfl, Nat.le_of_ble_eq_true rfl⟩) ?_
      refine lv_ldc2 (own := RX0) (v := 1048576) hx hb cx.2.2.2.1 (cx.2.2.2.2 _ cl_X0_138) dX0_bendKey_26 ?_
      refine lv_ladd hx hb dX0_bendKey_29 ?_
      refine lv_lstore (lv' := [(6, .long (r2 + 1048576)), (0, .ref ((a_t 0))), (1, .ref ((a_p1 0))), (2, .int v2), (3, .long v3), (5, .int v5)]) hx hb dX0_bendKey_30 hl (by decide) rfl (fun ls hl => ?_)
      refine lv_lload_n hx hb dX0_bendKey_32 rfl (lv_at hl 4 rfl) ?_
      refine lv_bipush (v := 21) hx hb dX0_bendKey_33 (by decide) ?_
      refine lv_lshl (v := lshl v3 21) hx hb dX0_bendKey_35 rfl ?_
      refine lv_lload hx hb dX0_bendKey_36 (lv_at hl 0 rfl) ?_
      refine lv_lor hx hb dX0_bendKey_38 ?_
      refine lv_lstore_n (lv' := [(3, .long ((lshl v3 21) ||| (r2 + 1048576))), (6, .long (r2 + 1048576)), (0, .ref ((a_t 0))), (1, .ref ((a_p1 0))), (2, .int v2), (5, .int v5)]) hx hb dX0_bendKey_39 rfl hl (by decide) rfl (fun ls hl => ?_)
      refine lv_iinc (v := v5 + 1) (lv' := [(5, .int (v5 + 1)), (3, .long ((lshl v3 21) ||| (r2 + 1048576))), (6, .long (r2 + 1048576)), (0, .ref ((a_t 0))), (1, .ref ((a_p1 0))), (2, .int v2)]) hx hb dX0_bendKey_40 hl (k := 5) rfl rfl (by decide) rfl (fun ls hl => ?_)
      refine lv_goto (tgt := 5) hx hb dX0_bendKey_43 (by decide) ?_
      exact ih v2 ((lshl v3 21) ||| (r2 + 1048576)) (v5 + 1) _ (lv_sub hl [3, 4, 5, 1, 0] rfl) h
  unfold fX0_bendKey at h
  refine lv_lconst (v := 0) hx hb dX0_bendKey_0 (by decide) ?_
  refine lv_lstore_n (lv' := [(3, .long (0)), (0, .ref ((a_t 0))), (1, .ref ((a_p1 0))), (2, .int v2)]) hx hb dX0_bendKey_1 rfl hl (by decide) rfl (fun ls hl => ?_)
  refine lv_iconst (v := 0) hx hb dX0_bendKey_2 (by decide) ?_
  refine lv_istore (lv' := [(5, .int (0)), (3, .long (0)), (0, .ref ((a_t 0))), (1, .ref ((a_p1 0))), (2, .int v2)]) hx hb dX0_bendKey_3 hl (by decide) rfl (fun ls hl => ?_)
  exact w5 FU v2 0 0 _ (lv_sub hl [2, 3, 4, 1, 0] rfl) h
-- X0_isNew
theorem dX0_isNew_0 : decode cX0_isNew 0 = .ok (.lload_n 1, 1) := by decide +kernel
theorem dX0_isNew_1 : decode cX0_isNew 1 = .ok (.ldc2_w 140, 3) := by decide +kernel
theorem dX0_isNew_4 : decode cX0_isNew 4 = .ok (.lmul, 1) := by decide +kernel
theorem dX0_isNew_5 : decode cX0_isNew 5 = .ok (.bipush 33, 2) := by decide +kernel
theorem dX0_isNew_7 : decode cX0_isNew 7 = .ok (.lushr, 1) := by decide +kernel
theorem dX0_isNew_8 : decode cX0_isNew 8 = .ok (.l2i, 1) := by decide +kernel
theorem dX0_isNew_9 : decode cX0_isNew 9 = .ok (.istore_n 3, 1) := by decide +kernel
theorem dX0_isNew_10 : decode cX0_isNew 10 = .ok (.iconst 0, 1) := by decide +kernel
theorem dX0_isNew_11 : decode cX0_isNew 11 = .ok (.istore 4, 2) := by decide +kernel
theorem dX0_isNew_13 : decode cX0_isNew 13 = .ok (.iload 4, 2) := by decide +kernel
theorem dX0_isNew_15 : decode cX0_isNew 15 = .ok (.aload_n 0, 1) := by decide +kernel
theorem dX0_isNew_16 : decode cX0_isNew 16 = .ok (.getfield 15, 3) := by decide +kernel
theorem dX0_isNew_19 : decode cX0_isNew 19 = .ok (.arraylength, 1) := by decide +kernel
theorem dX0_isNew_20 : decode cX0_isNew 20 = .ok (.if_icmp .ge 59, 3) := by decide +kernel
theorem dX0_isNew_23 : decode cX0_isNew 23 = .ok (.iload_n 3, 1) := by decide +kernel
theorem dX0_isNew_24 : decode cX0_isNew 24 = .ok (.iload 4, 2) := by decide +kernel
theorem dX0_isNew_26 : decode cX0_isNew 26 = .ok (.iadd, 1) := by decide +kernel
theorem dX0_isNew_27 : decode cX0_isNew 27 = .ok (.aload_n 0, 1) := by decide +kernel
theorem dX0_isNew_28 : decode cX0_isNew 28 = .ok (.getfield 15, 3) := by decide +kernel
theorem dX0_isNew_31 : decode cX0_isNew 31 = .ok (.arraylength, 1) := by decide +kernel
theorem dX0_isNew_32 : decode cX0_isNew 32 = .ok (.iconst 1, 1) := by decide +kernel
theorem dX0_isNew_33 : decode cX0_isNew 33 = .ok (.isub, 1) := by decide +kernel
theorem dX0_isNew_34 : decode cX0_isNew 34 = .ok (.iand, 1) := by decide +kernel
theorem dX0_isNew_35 : decode cX0_isNew 35 = .ok (.istore 5, 2) := by decide +kernel
theorem dX0_isNew_37 : decode cX0_isNew 37 = .ok (.aload_n 0, 1) := by decide +kernel
theorem dX0_isNew_38 : decode cX0_isNew 38 = .ok (.getfield 15, 3) := by decide +kernel
theorem dX0_isNew_41 : decode cX0_isNew 41 = .ok (.iload 5, 2) := by decide +kernel
theorem dX0_isNew_43 : decode cX0_isNew 43 = .ok (.laload, 1) := by decide +kernel
theorem dX0_isNew_44 : decode cX0_isNew 44 = .ok (.lload_n 1, 1) := by decide +kernel
theorem dX0_isNew_45 : decode cX0_isNew 45 = .ok (.lcmp, 1) := by decide +kernel
theorem dX0_isNew_46 : decode cX0_isNew 46 = .ok (.ifCond .ne 5, 3) := by decide +kernel
theorem dX0_isNew_49 : decode cX0_isNew 49 = .ok (.iconst 0, 1) := by decide +kernel
theorem dX0_isNew_50 : decode cX0_isNew 50 = .ok (.ireturn, 1) := by decide +kernel
theorem dX0_isNew_51 : decode cX0_isNew 51 = .ok (.aload_n 0, 1) := by decide +kernel
theorem dX0_isNew_52 : decode cX0_isNew 52 = .ok (.getfield 15, 3) := by decide +kernel
theorem dX0_isNew_55 : decode cX0_isNew 55 = .ok (.iload 5, 2) := by decide +kernel
theorem dX0_isNew_57 : decode cX0_isNew 57 = .ok (.laload, 1) := by decide +kernel
theorem dX0_isNew_58 : decode cX0_isNew 58 = .ok (.lconst 0, 1) := by decide +kernel
theorem dX0_isNew_59 : decode cX0_isNew 59 = .ok (.lcmp, 1) := by decide +kernel
theorem dX0_isNew_60 : decode cX0_isNew 60 = .ok (.ifCond .ne 13, 3) := by decide +kernel
theorem dX0_isNew_63 : decode cX0_isNew 63 = .ok (.aload_n 0, 1) := by decide +kernel
theorem dX0_isNew_64 : decode cX0_isNew 64 = .ok (.getfield 15, 3) := by decide +kernel
theorem dX0_isNew_67 : decode cX0_isNew 67 = .ok (.iload 5, 2) := by decide +kernel
theorem dX0_isNew_69 : decode cX0_isNew 69 = .ok (.lload_n 1, 1) := by decide +kernel
theorem dX0_isNew_70 : decode cX0_isNew 70 = .ok (.lastore, 1) := by decide +kernel
theorem dX0_isNew_71 : decode cX0_isNew 71 = .ok (.iconst 1, 1) := by decide +kernel
theorem dX0_isNew_72 : decode cX0_isNew 72 = .ok (.ireturn, 1) := by decide +kernel
theorem dX0_isNew_73 : decode cX0_isNew 73 = .ok (.iinc 4 1, 3) := by decide +kernel
theorem dX0_isNew_76 : decode cX0_isNew 76 = .ok (.goto (-63), 3) := by decide +kernel
theorem dX0_isNew_79 : decode cX0_isNew 79 = .ok (.iconst 0, 1) := by decide +kernel
theorem dX0_isNew_80 : decode cX0_isNew 80 = .ok (.ireturn, 1) := by decide +kernel
noncomputable def fX0_isNew_63  (t_seen_n : Nat) (t_seen : Nat → Int64) (v1 : Int64) (v5 : Int32) : Option (Int32 × (Nat → Int64)) := chk t_seen_n v5 (some ((1), vp_updL t_seen v5.toNatClampNeg v1))
noncomputable def fX0_isNew_13  : Nat → Nat → (Nat → Int64) → Int64 → Int32 → Int32 → Option (Int32 × (Nat → Int64))
  | 0, _, _, _, _, _ => none
  | n + 1, t_seen_n, t_seen, v1, v3, v4 => (if (nI t_seen_n) ≤ v4 then some ((0), t_seen) else chk t_seen_n ((v3 + v4) &&& ((nI t_seen_n) - 1)) ((if (lg_cmp (t_seen ((v3 + v4) &&& ((nI t_seen_n) - 1)).toNatClampNeg) v1) = 0 then some ((0), t_seen) else chk t_seen_n ((v3 + v4) &&& ((nI t_seen_n) - 1)) ((if (lg_cmp (t_seen ((v3 + v4) &&& ((nI t_seen_n) - 1)).toNatClampNeg) 0) = 0 then fX0_isNew_63 t_seen_n t_seen v1 ((v3 + v4) &&& ((nI t_seen_n) - 1)) else fX0_isNew_13 n t_seen_n t_seen v1 v3 (v4 + 1))))))
theorem fX0_isNew_13_z  (t_seen_n : Nat) (t_seen : Nat → Int64) (v1 : Int64) (v3 : Int32) (v4 : Int32) : fX0_isNew_13  0 t_seen_n t_seen v1 v3 v4 = none := rfl
theorem fX0_isNew_13_s  (n : Nat) (t_seen_n : Nat) (t_seen : Nat → Int64) (v1 : Int64) (v3 : Int32) (v4 : Int32) : fX0_isNew_13  (n + 1) t_seen_n t_seen v1 v3 v4 = (if (nI t_seen_n) ≤ v4 then some ((0), t_seen) else chk t_seen_n ((v3 + v4) &&& ((nI t_seen_n) - 1)) ((if (lg_cmp (t_seen ((v3 + v4) &&& ((nI t_seen_n) - 1)).toNatClampNeg) v1) = 0 then some ((0), t_seen) else chk t_seen_n ((v3 + v4) &&& ((nI t_seen_n) - 1)) ((if (lg_cmp (t_seen ((v3 + v4) &&& ((nI t_seen_n) - 1)).toNatClampNeg) 0) = 0 then fX0_isNew_63 t_seen_n t_seen v1 ((v3 + v4) &&& ((nI t_seen_n) - 1)) else fX0_isNew_13 n t_seen_n t_seen v1 v3 (v4 + 1)))))) := rfl
noncomputable def fX0_isNew  (t_seen_n : Nat) (t_seen : Nat → Int64) (v1 : Int64) : Option (Int32 × (Nat → Int64)) := fX0_isNew_13 FU t_seen_n t_seen v1 ((lushr (v1 * (-7046029254386353131)) 33).toInt32) 0
set_option maxHeartbeats 4000000 in
set_option maxRecDepth 100000 in
theorem ctX0_isNew (l : Launch) (g : GT) (sz : Nat) (a_t : Nat → Nat) (b_t_rows : Nat) (b_t_seen : Nat) (t_size : Int32) (t_ready : Int32) (t_pool : Int32) (t_plies : Int32) (t_room : Int32) (t_seen_n : Nat) (t_seen : Nat → Int64) (v1 : Int64) (o : Int32) (o_t_seen : Nat → Int64) (h : fX0_isNew t_seen_n t_seen v1 = some (o, o_t_seen)) : Met l yX0_isNew (Cond.code yX0_isNew cX0_isNew 6 (some .boolean) :: Tw) ⟨0, 0, 0, 0⟩ (va_Pc [.ref ((a_t 0)), .long v1] (rwB g [((a_t 0), .inr (0, [.ref b_t_rows, .ref b_t_seen, .int t_size, .int t_ready, .int t_pool, .int t_plies, .int t_room])), (b_t_seen, .inl (g.2.2.1 1, t_seen_n, .inr (.inl t_seen)))] sz)) (va_Qi (fun x (_ : Nat → Nat) => x = o ∧ (x = 0 ∨ x = 1)) (fun u => rwE g (va_A [((a_t 0), .inr (0, [.ref b_t_rows, .ref b_t_seen, .int t_size, .int t_ready, .int t_pool, .int t_plies, .int t_room])), (b_t_seen, .inl (g.2.2.1 1, t_seen_n, .inr (.inl t_seen)))] sz) [((a_t 0), .inr (0, [.ref b_t_rows, .ref b_t_seen, .int t_size, .int t_ready, .int t_pool, .int t_plies, .int t_room])), (b_t_seen, .inl (g.2.2.1 1, t_seen_n, .inr (.inl o_t_seen)))]) (va_A [((a_t 0), .inr (0, [.ref b_t_rows, .ref b_t_seen, .int t_size, .int t_ready, .int t_pool, .int t_plies, .int t_room])), (b_t_seen, .inl (g.2.2.1 1, t_seen_n, .inr (.inl t_seen)))] sz)) 0 0 (va_A [((a_t 0), .inr (0, [.ref b_t_rows, .ref b_t_seen, .int t_size, .int t_ready, .int t_pool, .int t_plies, .int t_room])), (b_t_seen, .inl (g.2.2.1 1, t_seen_n, .inr (.inl t_seen)))] sz) := by
  refine rw_metz (by decide) (Nat.le_of_ble_eq_true rfl) (lv0 := [(0, .ref ((a_t 0))), (1, .long v1)]) rfl ?_
  intro p e s m args below meth c ls Q A cx hret hG hAb hb0 hA hP hD hl
  have hx := cx.1
  have hb := cx.2.1
  have hG0 := hG
  have hGk : ∀ {H : Heap} {locs : List Loc}, va_S A s.heap H locs → GE g s H := fun hS => hG0.keptS hAb hS
  have hSb : ∀ {H : Heap} {locs : List Loc}, va_S A s.heap H locs → va_S (fun a => g.1 ≤ a) s.heap H locs := fun hS => ⟨hS.1, fun q h1 h2 => hS.2.1 q h1 (fun z => h2 (hAb q z)), fun l hl => hAb _ (hS.2.2 l hl)⟩
  have hS : va_S A s.heap s.heap [] := va_S.rf
  have hrt : ∀ (u : Nat → Nat) (pc : Nat) (ls : Array Slot) (v : Int32) (x_t_seen : Nat → Int64) (H : Heap) (locs : List Loc), decode cX0_isNew pc = .ok (.ireturn, 1) → (v = 0 ∨ v = 1) → some (v, x_t_seen) = some (o, o_t_seen) → va_P g.2.1 vwCl [((a_t 0), .inr (0, [.ref b_t_rows, .ref b_t_seen, .int t_size, .int t_ready, .int t_pool, .int t_plies, .int t_room])), (b_t_seen, .inl (g.2.2.1 1, t_seen_n, .inr (.inl x_t_seen)))] H → va_D A [((a_t 0), .inr (0, [.ref b_t_rows, .ref b_t_seen, .int t_size, .int t_ready, .int t_pool, .int t_plies, .int t_room])), (b_t_seen, .inl (g.2.2.1 1, t_seen_n, .inr (.inl x_t_seen)))] → va_S A s.heap H locs → W p l e ⟨0, 0, 0, 0⟩ s m args below meth c H locs 0 0 Q (F0 m pc ls [.int v]) := by
    intro u pc ls v x_t_seen H locs hd hz h hP hD hS
    cases h
    exact hret u _ _ _ _ _ hd hz rfl hP hD hS
  have w63 : ∀ (t_seen : Nat → Int64) (v1 : Int64) (v5 : Int32) (H : Heap) (locs : List Loc), va_P g.2.1 vwCl [((a_t 0), .inr (0, [.ref b_t_rows, .ref b_t_seen, .int t_size, .int t_ready, .int t_pool, .int t_plies, .int t_room])), (b_t_seen, .inl (g.2.2.1 1, t_seen_n, .inr (.inl t_seen)))] H → va_D A [((a_t 0), .inr (0, [.ref b_t_rows, .ref b_t_seen, .int t_size, .int t_ready, .int t_pool, .int t_plies, .int t_room])), (b_t_seen, .inl (g.2.2.1 1, t_seen_n, .inr (.inl t_seen)))] → va_S A s.heap H locs → ∀ (ls : Array Slot), lv_has ls 6 [(0, .ref ((a_t 0))), (1, .long v1), (5, .int v5)] → fX0_isNew_63  t_seen_n t_seen v1 v5 = some (o, o_t_seen) → W p l e ⟨0, 0, 0, 0⟩ s m args below meth c H locs 0 0 Q (F0 m 63 ls []) := by
    intro t_seen v1 v5 H locs hP hD hS ls hl h
    unfold fX0_isNew_63 at h
    have hG := hGk hS
    refine lv_aload_n hx hb dX0_isNew_63 rfl (lv_at hl 0 rfl) ?_
    refine xa_get (C := RX0) (T := TX0) (N := 7) cx hG hP 0 rfl rfl uX0 1 (by decide) lf_X0_15 rfl dX0_isNew_64 ?_
    refine lv_iload hx hb dX0_isNew_67 (lv_at hl 2 rfl) ?_
    refine lv_lload_n hx hb dX0_isNew_69 rfl (lv_at hl 1 rfl) ?_
    obtain ⟨hi6, h⟩ := chk_out h
    refine xw_last (ws' := [((a_t 0), .inr (0, [.ref b_t_rows, .ref b_t_seen, .int t_size, .int t_ready, .int t_pool, .int t_plies, .int t_room])), (b_t_seen, .inl (g.2.2.1 1, t_seen_n, .inr (.inl (vp_updL t_seen v5.toNatClampNeg v1))))]) (k := v5.toNatClampNeg) cx hG hP hD hS 1 rfl hi6 rfl rfl dX0_isNew_70 (fun H locs hP hD hS => ?_)
    have hG := hGk hS
    refine lv_iconst (v := 1) hx hb dX0_isNew_71 (by decide) ?_
    exact hrt (fun _ => 0) _ _ ((1)) (vp_updL t_seen v5.toNatClampNeg v1) _ _ dX0_isNew_72 (by decide) h (hP.sub [0, 1] rfl) (hD.sub [0, 1] (by decide) rfl) hS
  have w13 : ∀ (n : Nat) (t_seen : Nat → Int64) (v1 : Int64) (v3 : Int32) (v4 : Int32) (H : Heap) (locs : List Loc), va_P g.2.1 vwCl [((a_t 0), .inr (0, [.ref b_t_rows, .ref b_t_seen, .int t_size, .int t_ready, .int t_pool, .int t_plies, .int t_room])), (b_t_seen, .inl (g.2.2.1 1, t_seen_n, .inr (.inl t_seen)))] H → va_D A [((a_t 0), .inr (0, [.ref b_t_rows, .ref b_t_seen, .int t_size, .int t_ready, .int t_pool, .int t_plies, .int t_room])), (b_t_seen, .inl (g.2.2.1 1, t_seen_n, .inr (.inl t_seen)))] → va_S A s.heap H locs → ∀ (ls : Array Slot), lv_has ls 6 [(0, .ref ((a_t 0))), (1, .long v1), (3, .int v3), (4, .int v4)] → fX0_isNew_13  n t_seen_n t_seen v1 v3 v4 = some (o, o_t_seen) → W p l e ⟨0, 0, 0, 0⟩ s m args below meth c H locs 0 0 Q (F0 m 13 ls []) := by
    intro n
    induction n with
    | zero => intro t_seen v1 v3 v4 H locs hP hD hS ls hl h; cases (fX0_isNew_13_z  t_seen_n t_seen v1 v3 v4).symm.trans h
    | succ n ih =>
    intro t_seen v1 v3 v4 H locs hP hD hS ls hl h
    have h := (fX0_isNew_13_s  n t_seen_n t_seen v1 v3 v4).symm.trans h
    have hG := hGk hS
    refine lv_iload hx hb dX0_isNew_13 (lv_at hl 3 rfl) ?_
    refine lv_aload_n hx hb dX0_isNew_15 rfl (lv_at hl 0 rfl) ?_
    refine xa_get (C := RX0) (T := TX0) (N := 7) cx hG hP 0 rfl rfl uX0 1 (by decide) lf_X0_15 rfl dX0_isNew_16 ?_
    refine xa_len cx hG hP 1 rfl 1 rfl (v := nI t_seen_n) rfl dX0_isNew_19 ?_
    refine lv_icmp_ge (tgt := 79) hx hb dX0_isNew_20 (by decide) (fun c1 => ?_) (fun c1 => ?_)
    · have h := itp c1 h
      refine lv_iconst (v := 0) hx hb dX0_isNew_79 (by decide) ?_
      exact hrt (fun _ => 0) _ _ ((0)) t_seen _ _ dX0_isNew_80 (by decide) h (hP.sub [0, 1] rfl) (hD.sub [0, 1] (by decide) rfl) hS
    · have h := itn c1 h
      refine lv_iload_n hx hb dX0_isNew_23 rfl (lv_at hl 2 rfl) ?_
      refine lv_iload hx hb dX0_isNew_24 (lv_at hl 3 rfl) ?_
      refine lv_iadd hx hb dX0_isNew_26 ?_
      refine lv_aload_n hx hb dX0_isNew_27 rfl (lv_at hl 0 rfl) ?_
      refine xa_get (C := RX0) (T := TX0) (N := 7) cx hG hP 0 rfl rfl uX0 1 (by decide) lf_X0_15 rfl dX0_isNew_28 ?_
      refine xa_len cx hG hP 1 rfl 1 rfl (v := nI t_seen_n) rfl dX0_isNew_31 ?_
      refine lv_iconst (v := 1) hx hb dX0_isNew_32 (by decide) ?_
      refine lv_isub hx hb dX0_isNew_33 ?_
      refine lv_iand hx hb dX0_isNew_34 ?_
      refine lv_istore (lv' := [(5, .int ((v3 + v4) &&& ((nI t_seen_n) - 1))), (0, .ref ((a_t 0))), (1, .long v1), (3, .int v3), (4, .int v4)]) hx hb dX0_isNew_35 hl (by decide) rfl (fun ls hl => ?_)
      refine lv_aload_n hx hb dX0_isNew_37 rfl (lv_at hl 1 rfl) ?_
      refine xa_get (C := RX0) (T := TX0) (N := 7) cx hG hP 0 rfl rfl uX0 1 (by decide) lf_X0_15 rfl dX0_isNew_38 ?_
      refine lv_iload hx hb dX0_isNew_41 (lv_at hl 0 rfl) ?_
      obtain ⟨hi2, h⟩ := chk_out h
      refine xa_lald cx hG hP 1 rfl hi2 rfl dX0_isNew_43 ?_
      refine lv_lload_n hx hb dX0_isNew_44 rfl (lv_at hl 2 rfl) ?_
      refine W.lcmp hx hb dX0_isNew_45 ?_
      refine lv_if_ne (tgt := 51) hx hb dX0_isNew_46 (by decide) (fun c3 => ?_) (fun c3 => ?_)
      · have h := itn c3 h
        refine lv_aload_n hx hb dX0_isNew_51 rfl (lv_at hl 1 rfl) ?_
        refine xa_get (C := RX0) (T := TX0) (N := 7) cx hG hP 0 rfl rfl uX0 1 (by decide) lf_X0_15 rfl dX0_isNew_52 ?_
        refine lv_iload hx hb dX0_isNew_55 (lv_at hl 0 rfl) ?_
        obtain ⟨hi4, h⟩ := chk_out h
        refine xa_lald cx hG hP 1 rfl hi4 rfl dX0_isNew_57 ?_
        refine lv_lconst (v := 0) hx hb dX0_isNew_58 (by decide) ?_
        refine W.lcmp hx hb dX0_isNew_59 ?_
        refine lv_if_ne (tgt := 73) hx hb dX0_isNew_60 (by decide) (fun c5 => ?_) (fun c5 => ?_)
        · have h := itn c5 h
          refine lv_iinc (v := v4 + 1) (lv' := [(4, .int (v4 + 1)), (5, .int ((v3 + v4) &&& ((nI t_seen_n) - 1))), (0, .ref ((a_t 0))), (1, .long v1), (3, .int v3)]) hx hb dX0_isNew_73 hl (k := 4) rfl rfl (by decide) rfl (fun ls hl => ?_)
          refine lv_goto (tgt := 13) hx hb dX0_isNew_76 (by decide) ?_
          exact ih t_seen v1 v3 (v4 + 1) _ _ hP hD hS _ (lv_sub hl [2, 3, 4, 0] rfl) h
        · have h := itp c5 h
          exact w63 t_seen v1 ((v3 + v4) &&& ((nI t_seen_n) - 1)) _ _ hP hD hS _ (lv_sub hl [1, 2, 0] rfl) h
      · have h := itp c3 h
        refine lv_iconst (v := 0) hx hb dX0_isNew_49 (by decide) ?_
        exact hrt (fun _ => 0) _ _ ((0)) t_seen _ _ dX0_isNew_50 (by decide) h (hP.sub [0, 1] rfl) (hD.sub [0, 1] (by decide) rfl) hS
  unfold fX0_isNew at h
  refine lv_lload_n hx hb dX0_isNew_0 rfl (lv_at hl 1 rfl) ?_
  refine lv_ldc2 (own := RX0) (v := -7046029254386353131) hx hb cx.2.2.2.1 (cx.2.2.2.2 _ cl_X0_140) dX0_isNew_1 ?_
  refine lv_lmul hx hb dX0_isNew_4 ?_
  refine lv_bipush (v := 33) hx hb dX0_isNew_5 (by decide) ?_
  refine lv_lushr (v := lushr (v1 * (-7046029254386353131)) 33) hx hb dX0_isNew_7 rfl ?_
  refine lv_l2i (v := (lushr (v1 * (-7046029254386353131)) 33).toInt32) hx hb dX0_isNew_8 rfl ?_
  refine lv_istore_n (lv' := [(3, .int ((lushr (v1 * (-7046029254386353131)) 33).toInt32)), (0, .ref ((a_t 0))), (1, .long v1)]) hx hb dX0_isNew_9 rfl hl (by decide) rfl (fun ls hl => ?_)
  refine lv_iconst (v := 0) hx hb dX0_isNew_10 (by decide) ?_
  refine lv_istore (lv' := [(4, .int (0)), (3, .int ((lushr (v1 * (-7046029254386353131)) 33).toInt32)), (0, .ref ((a_t 0))), (1, .long v1)]) hx hb dX0_isNew_11 hl (by decide) rfl (fun ls hl => ?_)
  exact w13 FU t_seen v1 ((lushr (v1 * (-7046029254386353131)) 33).toInt32) 0 _ _ hP hD hS _ (lv_sub hl [2, 3, 1, 0] rfl) h
-- X0_unlikeBends
theorem dX0_unlikeBends_0 : decode cX0_unlikeBends 0 = .ok (.bipush 32, 2) := by decide +kernel
theorem dX0_unlikeBends_2 : decode cX0_unlikeBends 2 = .ok (.istore_n 3, 1) := by decide +kernel
theorem dX0_unlikeBends_3 : decode cX0_unlikeBends 3 = .ok (.iconst 0, 1) := by decide +kernel
theorem dX0_unlikeBends_4 : decode cX0_unlikeBends 4 = .ok (.istore 4, 2) := by decide +kernel
theorem dX0_unlikeBends_6 : decode cX0_unlikeBends 6 = .ok (.iload 4, 2) := by decide +kernel
theorem dX0_unlikeBends_8 : decode cX0_unlikeBends 8 = .ok (.bipush 12, 2) := by decide +kernel
theorem dX0_unlikeBends_10 : decode cX0_unlikeBends 10 = .ok (.if_icmp .ge 28, 3) := by decide +kernel
theorem dX0_unlikeBends_13 : decode cX0_unlikeBends 13 = .ok (.iload_n 3, 1) := by decide +kernel
theorem dX0_unlikeBends_14 : decode cX0_unlikeBends 14 = .ok (.aload_n 0, 1) := by decide +kernel
theorem dX0_unlikeBends_15 : decode cX0_unlikeBends 15 = .ok (.getfield 49, 3) := by decide +kernel
theorem dX0_unlikeBends_18 : decode cX0_unlikeBends 18 = .ok (.aload_n 0, 1) := by decide +kernel
theorem dX0_unlikeBends_19 : decode cX0_unlikeBends 19 = .ok (.getfield 49, 3) := by decide +kernel
theorem dX0_unlikeBends_22 : decode cX0_unlikeBends 22 = .ok (.iconst 2, 1) := by decide +kernel
theorem dX0_unlikeBends_23 : decode cX0_unlikeBends 23 = .ok (.idiv, 1) := by decide +kernel
theorem dX0_unlikeBends_24 : decode cX0_unlikeBends 24 = .ok (.iadd, 1) := by decide +kernel
theorem dX0_unlikeBends_25 : decode cX0_unlikeBends 25 = .ok (.if_icmp .ge 13, 3) := by decide +kernel
theorem dX0_unlikeBends_28 : decode cX0_unlikeBends 28 = .ok (.iload_n 3, 1) := by decide +kernel
theorem dX0_unlikeBends_29 : decode cX0_unlikeBends 29 = .ok (.iconst 2, 1) := by decide +kernel
theorem dX0_unlikeBends_30 : decode cX0_unlikeBends 30 = .ok (.imul, 1) := by decide +kernel
theorem dX0_unlikeBends_31 : decode cX0_unlikeBends 31 = .ok (.istore_n 3, 1) := by decide +kernel
theorem dX0_unlikeBends_32 : decode cX0_unlikeBends 32 = .ok (.iinc 4 1, 3) := by decide +kernel
theorem dX0_unlikeBends_35 : decode cX0_unlikeBends 35 = .ok (.goto (-29), 3) := by decide +kernel
theorem dX0_unlikeBends_38 : decode cX0_unlikeBends 38 = .ok (.aload_n 0, 1) := by decide +kernel
theorem dX0_unlikeBends_39 : decode cX0_unlikeBends 39 = .ok (.getfield 15, 3) := by decide +kernel
theorem dX0_unlikeBends_42 : decode cX0_unlikeBends 42 = .ok (.arraylength, 1) := by decide +kernel
theorem dX0_unlikeBends_43 : decode cX0_unlikeBends 43 = .ok (.iload_n 3, 1) := by decide +kernel
theorem dX0_unlikeBends_44 : decode cX0_unlikeBends 44 = .ok (.if_icmp .ge 10, 3) := by decide +kernel
theorem dX0_unlikeBends_47 : decode cX0_unlikeBends 47 = .ok (.aload_n 0, 1) := by decide +kernel
theorem dX0_unlikeBends_48 : decode cX0_unlikeBends 48 = .ok (.iload_n 3, 1) := by decide +kernel
theorem dX0_unlikeBends_49 : decode cX0_unlikeBends 49 = .ok (.newarray .long, 2) := by decide +kernel
theorem dX0_unlikeBends_51 : decode cX0_unlikeBends 51 = .ok (.putfield 15, 3) := by decide +kernel
theorem dX0_unlikeBends_54 : decode cX0_unlikeBends 54 = .ok (.aload_n 0, 1) := by decide +kernel
theorem dX0_unlikeBends_55 : decode cX0_unlikeBends 55 = .ok (.getfield 15, 3) := by decide +kernel
theorem dX0_unlikeBends_58 : decode cX0_unlikeBends 58 = .ok (.lconst 0, 1) := by decide +kernel
theorem dX0_unlikeBends_59 : decode cX0_unlikeBends 59 = .ok (.invokestatic 124, 3) := by decide +kernel
theorem dX0_unlikeBends_62 : decode cX0_unlikeBends 62 = .ok (.iconst 0, 1) := by decide +kernel
theorem dX0_unlikeBends_63 : decode cX0_unlikeBends 63 = .ok (.istore 4, 2) := by decide +kernel
theorem dX0_unlikeBends_65 : decode cX0_unlikeBends 65 = .ok (.iconst 0, 1) := by decide +kernel
theorem dX0_unlikeBends_66 : decode cX0_unlikeBends 66 = .ok (.istore 5, 2) := by decide +kernel
theorem dX0_unlikeBends_68 : decode cX0_unlikeBends 68 = .ok (.iload 5, 2) := by decide +kernel
theorem dX0_unlikeBends_70 : decode cX0_unlikeBends 70 = .ok (.aload_n 0, 1) := by decide +kernel
theorem dX0_unlikeBends_71 : decode cX0_unlikeBends 71 = .ok (.getfield 49, 3) := by decide +kernel
theorem dX0_unlikeBends_74 : decode cX0_unlikeBends 74 = .ok (.if_icmp .ge 40, 3) := by decide +kernel
theorem dX0_unlikeBends_77 : decode cX0_unlikeBends 77 = .ok (.aload_n 0, 1) := by decide +kernel
theorem dX0_unlikeBends_78 : decode cX0_unlikeBends 78 = .ok (.iload_n 2, 1) := by decide +kernel
theorem dX0_unlikeBends_79 : decode cX0_unlikeBends 79 = .ok (.iload 5, 2) := by decide +kernel
theorem dX0_unlikeBends_81 : decode cX0_unlikeBends 81 = .ok (.invokevirtual 103, 3) := by decide +kernel
theorem dX0_unlikeBends_84 : decode cX0_unlikeBends 84 = .ok (.ifCond .eq 24, 3) := by decide +kernel
theorem dX0_unlikeBends_87 : decode cX0_unlikeBends 87 = .ok (.aload_n 0, 1) := by decide +kernel
theorem dX0_unlikeBends_88 : decode cX0_unlikeBends 88 = .ok (.aload_n 0, 1) := by decide +kernel
theorem dX0_unlikeBends_89 : decode cX0_unlikeBends 89 = .ok (.aload_n 1, 1) := by decide +kernel
theorem dX0_unlikeBends_90 : decode cX0_unlikeBends 90 = .ok (.aload_n 0, 1) := by decide +kernel
theorem dX0_unlikeBends_91 : decode cX0_unlikeBends 91 = .ok (.iload 5, 2) := by decide +kernel
theorem dX0_unlikeBends_93 : decode cX0_unlikeBends 93 = .ok (.invokevirtual 106, 3) := by decide +kernel
theorem dX0_unlikeBends_96 : decode cX0_unlikeBends 96 = .ok (.invokevirtual 130, 3) := by decide +kernel
theorem dX0_unlikeBends_99 : decode cX0_unlikeBends 99 = .ok (.invokevirtual 134, 3) := by decide +kernel
theorem dX0_unlikeBends_102 : decode cX0_unlikeBends 102 = .ok (.ifCond .eq 6, 3) := by decide +kernel
theorem dX0_unlikeBends_105 : decode cX0_unlikeBends 105 = .ok (.iinc 4 1, 3) := by decide +kernel
theorem dX0_unlikeBends_108 : decode cX0_unlikeBends 108 = .ok (.iinc 5 1, 3) := by decide +kernel
theorem dX0_unlikeBends_111 : decode cX0_unlikeBends 111 = .ok (.goto (-43), 3) := by decide +kernel
theorem dX0_unlikeBends_114 : decode cX0_unlikeBends 114 = .ok (.iload 4, 2) := by decide +kernel
theorem dX0_unlikeBends_116 : decode cX0_unlikeBends 116 = .ok (.ireturn, 1) := by decide +kernel
noncomputable def fX0_unlikeBends_108 (lim0 : Nat) (k68 : Nat → (Nat → Int64) → Nat → (Nat → Int64) → Int32 → Int32 → (Nat → Int32) → Int32 → Int32 → Int32 → Option (Int32 × Nat × (Nat → Int64))) (t_rows_n : Nat) (t_rows : Nat → Int64) (t_seen_n : Nat) (t_seen : Nat → Int64) (t_size : Int32) (t_plies : Int32) (p1_cells : Nat → Int32) (v2 : Int32) (v4 : Int32) (v5 : Int32) : Option (Int32 × Nat × (Nat → Int64)) := k68 t_rows_n t_rows t_seen_n t_seen t_size t_plies p1_cells v2 v4 (v5 + 1)
noncomputable def fX0_unlikeBends_68 (lim0 : Nat)  : Nat → Nat → (Nat → Int64) → Nat → (Nat → Int64) → Int32 → Int32 → (Nat → Int32) → Int32 → Int32 → Int32 → Option (Int32 × Nat × (Nat → Int64))
  | 0, _, _, _, _, _, _, _, _, _, _ => none
  | n + 1, t_rows_n, t_rows, t_seen_n, t_seen, t_size, t_plies, p1_cells, v2, v4, v5 => (if t_size ≤ v5 then some (v4, t_seen_n, t_seen) else (fX0_isAmong t_rows_n t_rows v2 v5).bind fun r9 => (if r9 = 0 then fX0_unlikeBends_108 lim0 (fX0_unlikeBends_68 lim0 n) t_rows_n t_rows t_seen_n t_seen t_size t_plies p1_cells v2 v4 v5 else (fX0_rowAt t_rows_n t_rows v5).bind fun r13 => (fX0_bendKey t_plies p1_cells r13).bind fun r15 => ob2 (fX0_isNew t_seen_n t_seen r15) fun r18 w19 => (if r18 = 0 then fX0_unlikeBends_108 lim0 (fX0_unlikeBends_68 lim0 n) t_rows_n t_rows t_seen_n w19 t_size t_plies p1_cells v2 v4 v5 else fX0_unlikeBends_108 lim0 (fX0_unlikeBends_68 lim0 n) t_rows_n t_rows t_seen_n w19 t_size t_plies p1_cells v2 (v4 + 1) v5)))
theorem fX0_unlikeBends_68_z (lim0 : Nat)  (t_rows_n : Nat) (t_rows : Nat → Int64) (t_seen_n : Nat) (t_seen : Nat → Int64) (t_size : Int32) (t_plies : Int32) (p1_cells : Nat → Int32) (v2 : Int32) (v4 : Int32) (v5 : Int32) : fX0_unlikeBends_68 lim0  0 t_rows_n t_rows t_seen_n t_seen t_size t_plies p1_cells v2 v4 v5 = none := rfl
theorem fX0_unlikeBends_68_s (lim0 : Nat)  (n : Nat) (t_rows_n : Nat) (t_rows : Nat → Int64) (t_seen_n : Nat) (t_seen : Nat → Int64) (t_size : Int32) (t_plies : Int32) (p1_cells : Nat → Int32) (v2 : Int32) (v4 : Int32) (v5 : Int32) : fX0_unlikeBends_68 lim0  (n + 1) t_rows_n t_rows t_seen_n t_seen t_size t_plies p1_cells v2 v4 v5 = (if t_size ≤ v5 then some (v4, t_seen_n, t_seen) else (fX0_isAmong t_rows_n t_rows v2 v5).bind fun r9 => (if r9 = 0 then fX0_unlikeBends_108 lim0 (fX0_unlikeBends_68 lim0 n) t_rows_n t_rows t_seen_n t_seen t_size t_plies p1_cells v2 v4 v5 else (fX0_rowAt t_rows_n t_rows v5).bind fun r13 => (fX0_bendKey t_plies p1_cells r13).bind fun r15 => ob2 (fX0_isNew t_seen_n t_seen r15) fun r18 w19 => (if r18 = 0 then fX0_unlikeBends_108 lim0 (fX0_unlikeBends_68 lim0 n) t_rows_n t_rows t_seen_n w19 t_size t_plies p1_cells v2 v4 v5 else fX0_unlikeBends_108 lim0 (fX0_unlikeBends_68 lim0 n) t_rows_n t_rows t_seen_n w19 t_size t_plies p1_cells v2 (v4 + 1) v5))) := rfl
noncomputable def fX0_unlikeBends_54 (lim0 : Nat)  (t_rows_n : Nat) (t_rows : Nat → Int64) (t_seen_n : Nat) (t_seen : Nat → Int64) (t_size : Int32) (t_plies : Int32) (p1_cells : Nat → Int32) (v2 : Int32) : Option (Int32 × Nat × (Nat → Int64)) := (fJ7_fill_d0a16 t_seen_n t_seen 0).bind fun w6 => fX0_unlikeBends_68 lim0 FU t_rows_n t_rows t_seen_n w6 t_size t_plies p1_cells v2 0 0
noncomputable def fX0_unlikeBends_38 (lim0 : Nat)  (t_rows_n : Nat) (t_rows : Nat → Int64) (t_seen_n : Nat) (t_seen : Nat → Int64) (t_size : Int32) (t_plies : Int32) (p1_cells : Nat → Int32) (v2 : Int32) (v3 : Int32) : Option (Int32 × Nat × (Nat → Int64)) := (if v3 ≤ (nI t_seen_n) then fX0_unlikeBends_54 lim0 t_rows_n t_rows t_seen_n t_seen t_size t_plies p1_cells v2 else nn lim0 v3 (fX0_unlikeBends_54 lim0 t_rows_n t_rows v3.toNatClampNeg (fun _ => 0) t_size t_plies p1_cells v2))
noncomputable def fX0_unlikeBends_6 (lim0 : Nat)  : Nat → Nat → (Nat → Int64) → Nat → (Nat → Int64) → Int32 → Int32 → (Nat → Int32) → Int32 → Int32 → Int32 → Option (Int32 × Nat × (Nat → Int64))
  | 0, _, _, _, _, _, _, _, _, _, _ => none
  | n + 1, t_rows_n, t_rows, t_seen_n, t_seen, t_size, t_plies, p1_cells, v2, v3, v4 => (if 12 ≤ v4 then fX0_unlikeBends_38 lim0 t_rows_n t_rows t_seen_n t_seen t_size t_plies p1_cells v2 v3 else (if (t_size + (t_size / 2)) ≤ v3 then fX0_unlikeBends_38 lim0 t_rows_n t_rows t_seen_n t_seen t_size t_plies p1_cells v2 v3 else fX0_unlikeBends_6 lim0 n t_rows_n t_rows t_seen_n t_seen t_size t_plies p1_cells v2 (v3 * 2) (v4 + 1)))
theorem fX0_unlikeBends_6_z (lim0 : Nat)  (t_rows_n : Nat) (t_rows : Nat → Int64) (t_seen_n : Nat) (t_seen : Nat → Int64) (t_size : Int32) (t_plies : Int32) (p1_cells : Nat → Int32) (v2 : Int32) (v3 : Int32) (v4 : Int32) : fX0_unlikeBends_6 lim0  0 t_rows_n t_rows t_seen_n t_seen t_size t_plies p1_cells v2 v3 v4 = none := rfl
theorem fX0_unlikeBends_6_s (lim0 : Nat)  (n : Nat) (t_rows_n : Nat) (t_rows : Nat → Int64) (t_seen_n : Nat) (t_seen : Nat → Int64) (t_size : Int32) (t_plies : Int32) (p1_cells : Nat → Int32) (v2 : Int32) (v3 : Int32) (v4 : Int32) : fX0_unlikeBends_6 lim0  (n + 1) t_rows_n t_rows t_seen_n t_seen t_size t_plies p1_cells v2 v3 v4 = (if 12 ≤ v4 then fX0_unlikeBends_38 lim0 t_rows_n t_rows t_seen_n t_seen t_size t_plies p1_cells v2 v3 else (if (t_size + (t_size / 2)) ≤ v3 then fX0_unlikeBends_38 lim0 t_rows_n t_rows t_seen_n t_seen t_size t_plies p1_cells v2 v3 else fX0_unlikeBends_6 lim0 n t_rows_n t_rows t_seen_n t_seen t_size t_plies p1_cells v2 (v3 * 2) (v4 + 1))) := rfl
noncomputable def fX0_unlikeBends (lim0 : Nat)  (t_rows_n : Nat) (t_rows : Nat → Int64) (t_seen_n : Nat) (t_seen : Nat → Int64) (t_size : Int32) (t_plies : Int32) (p1_cells : Nat → Int32) (v2 : Int32) : Option (Int32 × Nat × (Nat → Int64)) := fX0_unlikeBends_6 lim0 FU t_rows_n t_rows t_seen_n t_seen t_size t_plies p1_cells v2 32 0
set_option maxHeartbeats 4000000 in
set_option maxRecDepth 100000 in
theorem ctX0_unlikeBends (l : Launch) (g : GT) (lim0 : Nat) (sz : Nat) (a_t : Nat → Nat) (a_p1 : Nat → Nat) (b_t_rows : Nat) (b_t_seen : Nat) (t_size : Int32) (t_ready : Int32) (t_pool : Int32) (t_plies : Int32) (t_room : Int32) (t_rows_n : Nat) (t_rows : Nat → Int64) (t_seen_n : Nat) (t_seen : Nat → Int64) (p1_told : Int32) (p1_lines : Int32) (p1_kinds : Int32) (p1_acts : Int32) (p1_cells : Nat → Int32) (v2 : Int32) (o : Int32) (o_t_seen_n : Nat) (o_t_seen : Nat → Int64) (h : fX0_unlikeBends lim0 t_rows_n t_rows t_seen_n t_seen t_size t_plies p1_cells v2 = some (o, o_t_seen_n, o_t_seen)) : Met l yX0_unlikeBends (Cond.code yX0_unlikeBends cX0_unlikeBends 6 (some .int) :: Tw) ⟨3, 1, lim0, 77⟩ (va_Pc [.ref ((a_t 0)), .ref ((a_p1 0)), .int v2] (rwB g [((a_t 0), .inr (0, [.ref b_t_rows, .ref b_t_seen, .int t_size, .int t_ready, .int t_pool, .int t_plies, .int t_room])), (b_t_rows, .inl (g.2.2.1 1, t_rows_n, .inr (.inl t_rows))), (b_t_seen, .inl (g.2.2.1 1, t_seen_n, .inr (.inl t_seen))), ((a_p1 0), .inr (1, [.ref (a_p1 1), .ref (a_p1 2), .ref (a_p1 3), .ref (a_p1 4), .ref (a_p1 5), .int p1_told, .int p1_lines, .int p1_kinds, .int p1_acts])), ((a_p1 2), .inl (g.2.2.1 0, 144, .inl p1_cells))] sz)) (va_Qi (fun x (_ : Nat → Nat) => x = o) (fun u => rwE g (va_A [((a_t 0), .inr (0, [.ref b_t_rows, .ref b_t_seen, .int t_size, .int t_ready, .int t_pool, .int t_plies, .int t_room])), (b_t_rows, .inl (g.2.2.1 1, t_rows_n, .inr (.inl t_rows))), (b_t_seen, .inl (g.2.2.1 1, t_seen_n, .inr (.inl t_seen))), ((a_p1 0), .inr (1, [.ref (a_p1 1), .ref (a_p1 2), .ref (a_p1 3), .ref (a_p1 4), .ref (a_p1 5), .int p1_told, .int p1_lines, .int p1_kinds, .int p1_acts])), ((a_p1 2), .inl (g.2.2.1 0, 144, .inl p1_cells))] sz) [((a_t 0), .inr (0, [.ref b_t_rows, .ref (u 0), .int t_size, .int t_ready, .int t_pool, .int t_plies, .int t_room])), (b_t_rows, .inl (g.2.2.1 1, t_rows_n, .inr (.inl t_rows))), ((u 0), .inl (g.2.2.1 1, o_t_seen_n, .inr (.inl o_t_seen))), ((a_p1 0), .inr (1, [.ref (a_p1 1), .ref (a_p1 2), .ref (a_p1 3), .ref (a_p1 4), .ref (a_p1 5), .int p1_told, .int p1_lines, .int p1_kinds, .int p1_acts])), ((a_p1 2), .inl (g.2.2.1 0, 144, .inl p1_cells))]) (va_A [((a_t 0), .inr (0, [.ref b_t_rows, .ref b_t_seen, .int t_size, .int t_ready, .int t_pool, .int t_plies, .int t_room])), (b_t_rows, .inl (g.2.2.1 1, t_rows_n, .inr (.inl t_rows))), (b_t_seen, .inl (g.2.2.1 1, t_seen_n, .inr (.inl t_seen))), ((a_p1 0), .inr (1, [.ref (a_p1 1), .ref (a_p1 2), .ref (a_p1 3), .ref (a_p1 4), .ref (a_p1 5), .int p1_told, .int p1_lines, .int p1_kinds, .int p1_acts])), ((a_p1 2), .inl (g.2.2.1 0, 144, .inl p1_cells))] sz)) 1 lim0 (va_A [((a_t 0), .inr (0, [.ref b_t_rows, .ref b_t_seen, .int t_size, .int t_ready, .int t_pool, .int t_plies, .int t_room])), (b_t_rows, .inl (g.2.2.1 1, t_rows_n, .inr (.inl t_rows))), (b_t_seen, .inl (g.2.2.1 1, t_seen_n, .inr (.inl t_seen))), ((a_p1 0), .inr (1, [.ref (a_p1 1), .ref (a_p1 2), .ref (a_p1 3), .ref (a_p1 4), .ref (a_p1 5), .int p1_told, .int p1_lines, .int p1_kinds, .int p1_acts])), ((a_p1 2), .inl (g.2.2.1 0, 144, .inl p1_cells))] sz) := by
  refine rw_meti (by decide) (Nat.le_of_ble_eq_true rfl) (lv0 := [(0, .ref ((a_t 0))), (1, .ref ((a_p1 0))), (2, .int v2)]) rfl ?_
  intro p e s m args below meth c ls Q A cx hret hG hAb hb0 hA hP hD hl
  have hx := cx.1
  have hb := cx.2.1
  have hG0 := hG
  have hGk : ∀ {H : Heap} {locs : List Loc}, va_S A s.heap H locs → GE g s H := fun hS => hG0.keptS hAb hS
  have hSb : ∀ {H : Heap} {locs : List Loc}, va_S A s.heap H locs → va_S (fun a => g.1 ≤ a) s.heap H locs := fun hS => ⟨hS.1, fun q h1 h2 => hS.2.1 q h1 (fun z => h2 (hAb q z)), fun l hl => hAb _ (hS.2.2 l hl)⟩
  have hS : va_S A s.heap s.heap [] := va_S.rf
  have hrt : ∀ (u : Nat → Nat) (pc : Nat) (ls : Array Slot) (v : Int32) (x_t_seen_n : Nat) (x_t_seen : Nat → Int64) (H : Heap) (locs : List Loc), decode cX0_unlikeBends pc = .ok (.ireturn, 1) → some (v, x_t_seen_n, x_t_seen) = some (o, o_t_seen_n, o_t_seen) → va_P g.2.1 vwCl [((a_t 0), .inr (0, [.ref b_t_rows, .ref (u 0), .int t_size, .int t_ready, .int t_pool, .int t_plies, .int t_room])), (b_t_rows, .inl (g.2.2.1 1, t_rows_n, .inr (.inl t_rows))), ((u 0), .inl (g.2.2.1 1, x_t_seen_n, .inr (.inl x_t_seen))), ((a_p1 0), .inr (1, [.ref (a_p1 1), .ref (a_p1 2), .ref (a_p1 3), .ref (a_p1 4), .ref (a_p1 5), .int p1_told, .int p1_lines, .int p1_kinds, .int p1_acts])), ((a_p1 2), .inl (g.2.2.1 0, 144, .inl p1_cells))] H → va_D A [((a_t 0), .inr (0, [.ref b_t_rows, .ref (u 0), .int t_size, .int t_ready, .int t_pool, .int t_plies, .int t_room])), (b_t_rows, .inl (g.2.2.1 1, t_rows_n, .inr (.inl t_rows))), ((u 0), .inl (g.2.2.1 1, x_t_seen_n, .inr (.inl x_t_seen))), ((a_p1 0), .inr (1, [.ref (a_p1 1), .ref (a_p1 2), .ref (a_p1 3), .ref (a_p1 4), .ref (a_p1 5), .int p1_told, .int p1_lines, .int p1_kinds, .int p1_acts])), ((a_p1 2), .inl (g.2.2.1 0, 144, .inl p1_cells))] → va_S A s.heap H locs → W p l e ⟨3, 1, lim0, 77⟩ s m args below meth c H locs 1 lim0 Q (F0 m pc ls [.int v]) := by
    intro u pc ls v x_t_seen_n x_t_seen H locs hd h hP hD hS
    cases h
    exact hret u _ _ _ _ _ hd rfl hP hD hS
  have w108 : ∀ (k68 : Nat → (Nat → Int64) → Nat → (Nat → Int64) → Int32 → Int32 → (Nat → Int32) → Int32 → Int32 → Int32 → Option (Int32 × Nat × (Nat → Int64))) (hk68 : ∀ (t_seen_n : Nat) (t_seen : Nat → Int64) (b_t_seen : Nat) (v2 : Int32) (v4 : Int32) (v5 : Int32) (H : Heap) (locs : List Loc), va_P g.2.1 vwCl [((a_t 0), .inr (0, [.ref b_t_rows, .ref b_t_seen, .int t_size, .int t_ready, .int t_pool, .int t_plies, .int t_room])), (b_t_rows, .inl (g.2.2.1 1, t_rows_n, .inr (.inl t_rows))), (b_t_seen, .inl (g.2.2.1 1, t_seen_n, .inr (.inl t_seen))), ((a_p1 0), .inr (1, [.ref (a_p1 1), .ref (a_p1 2), .ref (a_p1 3), .ref (a_p1 4), .ref (a_p1 5), .int p1_told, .int p1_lines, .int p1_kinds, .int p1_acts])), ((a_p1 2), .inl (g.2.2.1 0, 144, .inl p1_cells))] H → va_D A [((a_t 0), .inr (0, [.ref b_t_rows, .ref b_t_seen, .int t_size, .int t_ready, .int t_pool, .int t_plies, .int t_room])), (b_t_rows, .inl (g.2.2.1 1, t_rows_n, .inr (.inl t_rows))), (b_t_seen, .inl (g.2.2.1 1, t_seen_n, .inr (.inl t_seen))), ((a_p1 0), .inr (1, [.ref (a_p1 1), .ref (a_p1 2), .ref (a_p1 3), .ref (a_p1 4), .ref (a_p1 5), .int p1_told, .int p1_lines, .int p1_kinds, .int p1_acts])), ((a_p1 2), .inl (g.2.2.1 0, 144, .inl p1_cells))] → va_S A s.heap H locs → ∀ (ls : Array Slot), lv_has ls 6 [(0, .ref ((a_t 0))), (1, .ref ((a_p1 0))), (2, .int v2), (4, .int v4), (5, .int v5)] → k68 t_rows_n t_rows t_seen_n t_seen t_size t_plies p1_cells v2 v4 v5 = some (o, o_t_seen_n, o_t_seen) → W p l e ⟨3, 1, lim0, 77⟩ s m args below meth c H locs 1 lim0 Q (F0 m 68 ls [])) (t_seen_n : Nat) (t_seen : Nat → Int64) (b_t_seen : Nat) (v2 : Int32) (v4 : Int32) (v5 : Int32) (H : Heap) (locs : List Loc), va_P g.2.1 vwCl [((a_t 0), .inr (0, [.ref b_t_rows, .ref b_t_seen, .int t_size, .int t_ready, .int t_pool, .int t_plies, .int t_room])), (b_t_rows, .inl (g.2.2.1 1, t_rows_n, .inr (.inl t_rows))), (b_t_seen, .inl (g.2.2.1 1, t_seen_n, .inr (.inl t_seen))), ((a_p1 0), .inr (1, [.ref (a_p1 1), .ref (a_p1 2), .ref (a_p1 3), .ref (a_p1 4), .ref (a_p1 5), .int p1_told, .int p1_lines, .int p1_kinds, .int p1_acts])), ((a_p1 2), .inl (g.2.2.1 0, 144, .inl p1_cells))] H → va_D A [((a_t 0), .inr (0, [.ref b_t_rows, .ref b_t_seen, .int t_size, .int t_ready, .int t_pool, .int t_plies, .int t_room])), (b_t_rows, .inl (g.2.2.1 1, t_rows_n, .inr (.inl t_rows))), (b_t_seen, .inl (g.2.2.1 1, t_seen_n, .inr (.inl t_seen))), ((a_p1 0), .inr (1, [.ref (a_p1 1), .ref (a_p1 2), .ref (a_p1 3), .ref (a_p1 4), .ref (a_p1 5), .int p1_told, .int p1_lines, .int p1_kinds, .int p1_acts])), ((a_p1 2), .inl (g.2.2.1 0, 144, .inl p1_cells))] → va_S A s.heap H locs → ∀ (ls : Array Slot), lv_has ls 6 [(0, .ref ((a_t 0))), (1, .ref ((a_p1 0))), (2, .int v2), (4, .int v4), (5, .int v5)] → fX0_unlikeBends_108 lim0 k68 t_rows_n t_rows t_seen_n t_seen t_size t_plies p1_cells v2 v4 v5 = some (o, o_t_seen_n, o_t_seen) → W p l e ⟨3, 1, lim0, 77⟩ s m args below meth c H locs 1 lim0 Q (F0 m 108 ls []) := by
    intro k68 hk68 t_seen_n t_seen b_t_seen v2 v4 v5 H locs hP hD hS ls hl h
    unfold fX0_unlikeBends_108 at h
    have hG := hGk hS
    refine lv_iinc (v := v5 + 1) (lv' := [(5, .int (v5 + 1)), (0, .ref ((a_t 0))), (1, .ref ((a_p1 0))), (2, .int v2), (4, .int v4)]) hx hb dX0_unlikeBends_108 hl (k := 4) rfl rfl (by decide) rfl (fun ls hl => ?_)
    refine lv_goto (tgt := 68) hx hb dX0_unlikeBends_111 (by decide) ?_
    exact hk68 t_seen_n t_seen b_t_seen v2 v4 (v5 + 1) _ _ hP hD hS _ (lv_sub hl [1, 2, 3, 4, 0] rfl) h
  have w68 : ∀ (n : Nat) (t_seen_n : Nat) (t_seen : Nat → Int64) (b_t_seen : Nat) (v2 : Int32) (v4 : Int32) (v5 : Int32) (H : Heap) (locs : List Loc), va_P g.2.1 vwCl [((a_t 0), .inr (0, [.ref b_t_rows, .ref b_t_seen, .int t_size, .int t_ready, .int t_pool, .int t_plies, .int t_room])), (b_t_rows, .inl (g.2.2.1 1, t_rows_n, .inr (.inl t_rows))), (b_t_seen, .inl (g.2.2.1 1, t_seen_n, .inr (.inl t_seen))), ((a_p1 0), .inr (1, [.ref (a_p1 1), .ref (a_p1 2), .ref (a_p1 3), .ref (a_p1 4), .ref (a_p1 5), .int p1_told, .int p1_lines, .int p1_kinds, .int p1_acts])), ((a_p1 2), .inl (g.2.2.1 0, 144, .inl p1_cells))] H → va_D A [((a_t 0), .inr (0, [.ref b_t_rows, .ref b_t_seen, .int t_size, .int t_ready, .int t_pool, .int t_plies, .int t_room])), (b_t_rows, .inl (g.2.2.1 1, t_rows_n, .inr (.inl t_rows))), (b_t_seen, .inl (g.2.2.1 1, t_seen_n, .inr (.inl t_seen))), ((a_p1 0), .inr (1, [.ref (a_p1 1), .ref (a_p1 2), .ref (a_p1 3), .ref (a_p1 4), .ref (a_p1 5), .int p1_told, .int p1_lines, .int p1_kinds, .int p1_acts])), ((a_p1 2), .inl (g.2.2.1 0, 144, .inl p1_cells))] → va_S A s.heap H locs → ∀ (ls : Array Slot), lv_has ls 6 [(0, .ref ((a_t 0))), (1, .ref ((a_p1 0))), (2, .int v2), (4, .int v4), (5, .int v5)] → fX0_unlikeBends_68 lim0  n t_rows_n t_rows t_seen_n t_seen t_size t_plies p1_cells v2 v4 v5 = some (o, o_t_seen_n, o_t_seen) → W p l e ⟨3, 1, lim0, 77⟩ s m args below meth c H locs 1 lim0 Q (F0 m 68 ls []) := by
    intro n
    induction n with
    | zero => intro t_seen_n t_seen b_t_seen v2 v4 v5 H locs hP hD hS ls hl h; cases (fX0_unlikeBends_68_z lim0  t_rows_n t_rows t_seen_n t_seen t_size t_plies p1_cells v2 v4 v5).symm.trans h
    | succ n ih =>
    intro t_seen_n t_seen b_t_seen v2 v4 v5 H locs hP hD hS ls hl h
    have h := (fX0_unlikeBends_68_s lim0  n t_rows_n t_rows t_seen_n t_seen t_size t_plies p1_cells v2 v4 v5).symm.trans h
    have hG := hGk hS
    refine lv_iload hx hb dX0_unlikeBends_68 (lv_at hl 4 rfl) ?_
    refine lv_aload_n hx hb dX0_unlikeBends_70 rfl (lv_at hl 0 rfl) ?_
    refine xa_get (C := RX0) (T := TX0) (N := 7) cx hG hP 0 rfl rfl uX0 2 (by decide) lf_X0_49 rfl dX0_unlikeBends_71 ?_
    refine lv_icmp_ge (tgt := 114) hx hb dX0_unlikeBends_74 (by decide) (fun c8 => ?_) (fun c8 => ?_)
    · have h := itp c8 h
      refine lv_iload hx hb dX0_unlikeBends_114 (lv_at hl 3 rfl) ?_
      exact hrt (fun _ => b_t_seen) _ _ v4 t_seen_n t_seen _ _ dX0_unlikeBends_116 h (hP.sub [0, 1, 2, 3, 4] rfl) (hD.sub [0, 1, 2, 3, 4] (by decide) rfl) hS
    · have h := itn c8 h
      refine lv_aload_n hx hb dX0_unlikeBends_77 rfl (lv_at hl 0 rfl) ?_
      refine lv_iload_n hx hb dX0_unlikeBends_78 rfl (lv_at hl 2 rfl) ?_
      refine lv_iload hx hb dX0_unlikeBends_79 (lv_at hl 4 rfl) ?_
      obtain ⟨r9, hr10, h⟩ := bnd h
      refine ro_z (runV (As := [.int v2, .int v5]) (rest := []) cx hl.1 (ctX0_isAmong l g a_t b_t_rows b_t_seen t_size t_ready t_pool t_plies t_room t_rows_n t_rows v2 v5 r9 hr10) kmX0_isAmong kvX0_isAmong lm_X0_103 ⟨rfl, rfl⟩ ⟨Nat.le_of_ble_eq_true rfl, Nat.le_of_ble_eq_true rfl⟩ (roV (q0 := 0) (ci := 0) hG (hP.sub [0, 1] rfl) hP rfl rfl) rfl rfl (Nat.le_of_ble_eq_true rfl) dX0_unlikeBends_81 ⟨Nat.le_of_ble_eq_true rfl, (show (lim0 + 0 : Nat) ≤ lim0 by omega)⟩) (fun hz11 => ?_)
      refine lv_if_eq (tgt := 108) hx hb dX0_unlikeBends_84 (by decide) (fun c12 => ?_) (fun c12 => ?_)
      · have h := itp c12 h
        exact w108 _ ih t_seen_n t_seen b_t_seen v2 v4 v5 _ _ hP hD hS _ (lv_sub hl [0, 1, 2, 3, 4] rfl) h
      · have h := itn c12 h
        refine lv_aload_n hx hb dX0_unlikeBends_87 rfl (lv_at hl 0 rfl) ?_
        refine lv_aload_n hx hb dX0_unlikeBends_88 rfl (lv_at hl 0 rfl) ?_
        refine lv_aload_n hx hb dX0_unlikeBends_89 rfl (lv_at hl 1 rfl) ?_
        refine lv_aload_n hx hb dX0_unlikeBends_90 rfl (lv_at hl 0 rfl) ?_
        refine lv_iload hx hb dX0_unlikeBends_91 (lv_at hl 4 rfl) ?_
        obtain ⟨r13, hr14, h⟩ := bnd h
        refine ro_i (runV (As := [.int v5]) (rest := [.ref ((a_p1 0)), .ref ((a_t 0)), .ref ((a_t 0))]) cx hl.1 (ctX0_rowAt l g a_t b_t_rows b_t_seen t_size t_ready t_pool t_plies t_room t_rows_n t_rows v5 r13 hr14) kmX0_rowAt kvX0_rowAt lm_X0_106 ⟨rfl, rfl⟩ ⟨Nat.le_of_ble_eq_true rfl, Nat.le_of_ble_eq_true rfl⟩ (roV (q0 := 0) (ci := 0) hG (hP.sub [0, 1] rfl) hP rfl rfl) rfl rfl (Nat.le_of_ble_eq_true rfl) dX0_unlikeBends_93 ⟨Nat.le_of_ble_eq_true rfl, (show (lim0 + 0 : Nat) ≤ lim0 by omega)⟩) ?_
        obtain ⟨r15, hr16, h⟩ := bnd h
        refine ro_l (runV (As := [.ref ((a_p1 0)), .int r13]) (rest := [.ref ((a_t 0))]) cx hl.1 (ctX0_bendKey l g a_t a_p1 b_t_rows b_t_seen t_size t_ready t_pool t_plies t_room p1_told p1_lines p1_kinds p1_acts p1_cells r13 r15 hr16) kmX0_bendKey kvX0_bendKey lm_X0_130 ⟨rfl, rfl⟩ ⟨Nat.le_of_ble_eq_true rfl, Nat.le_of_ble_eq_true rfl⟩ (roV (q0 := 0) (ci := 0) hG (hP.sub [0, 3, 4] rfl) hP rfl rfl) rfl rfl (Nat.le_of_ble_eq_true rfl) dX0_unlikeBends_96 ⟨Nat.le_of_ble_eq_true rfl, (show (lim0 + 0 : Nat) ≤ lim0 by omega)⟩) ?_
        obtain ⟨r18, w19, hr17, h⟩ := ob2_out h
        refine rw_z (WN := fun u20 => [(b_t_rows, .inl (g.2.2.1 1, t_rows_n, .inr (.inl t_rows))), ((a_p1 0), .inr (1, [.ref (a_p1 1), .ref (a_p1 2), .ref (a_p1 3), .ref (a_p1 4), .ref (a_p1 5), .int p1_told, .int p1_lines, .int p1_kinds, .int p1_acts])), ((a_p1 2), .inl (g.2.2.1 0, 144, .inl p1_cells)), ((a_t 0), .inr (0, [.ref b_t_rows, .ref b_t_seen, .int t_size, .int t_ready, .int t_pool, .int t_plies, .int t_room])), (b_t_seen, .inl (g.2.2.1 1, t_seen_n, .inr (.inl w19)))]) (wr := [(b_t_rows, .inl (g.2.2.1 1, t_rows_n, .inr (.inl t_rows))), ((a_p1 0), .inr (1, [.ref (a_p1 1), .ref (a_p1 2), .ref (a_p1 3), .ref (a_p1 4), .ref (a_p1 5), .int p1_told, .int p1_lines, .int p1_kinds, .int p1_acts])), ((a_p1 2), .inl (g.2.2.1 0, 144, .inl p1_cells))]) (runV (As := [.long r15]) (rest := []) cx hl.1 (ctX0_isNew l g H.size a_t b_t_rows b_t_seen t_size t_ready t_pool t_plies t_room t_seen_n t_seen r15 r18 w19 hr17) kmX0_isNew kvX0_isNew lm_X0_134 ⟨rfl, rfl⟩ ⟨Nat.le_of_ble_eq_true rfl, Nat.le_of_ble_eq_true rfl⟩ (rwV (q0 := 0) (ci := 0) hG (hP.sub [0, 2] rfl) (hD.sub [0, 2] (by decide) rfl) hAb hb0 hS hP rfl rfl) rfl rfl (Nat.le_of_ble_eq_true rfl) dX0_unlikeBends_99 ⟨Nat.le_of_ble_eq_true rfl, (show (lim0 + 0 : Nat) ≤ lim0 by omega)⟩) hP hD hS hA [0, 2] [1, 3, 4] rfl rfl (by decide) (by decide) (fun _ => rfl) (fun hz21 u20 H locs hP hD hS => ?_)
        have hG := hGk hS
        refine lv_if_eq (tgt := 108) hx hb dX0_unlikeBends_102 (by decide) (fun c22 => ?_) (fun c22 => ?_)
        · have h := itp c22 h
          exact w108 _ ih t_seen_n w19 b_t_seen v2 v4 v5 _ _ (hP.sub [3, 0, 4, 1, 2] rfl) (hD.sub [3, 0, 4, 1, 2] (by decide) rfl) hS _ (lv_sub hl [0, 1, 2, 3, 4] rfl) h
        · have h := itn c22 h
          refine lv_iinc (v := v4 + 1) (lv' := [(4, .int (v4 + 1)), (0, .ref ((a_t 0))), (1, .ref ((a_p1 0))), (2, .int v2), (5, .int v5)]) hx hb dX0_unlikeBends_105 hl (k := 3) rfl rfl (by decide) rfl (fun ls hl => ?_)
          exact w108 _ ih t_seen_n w19 b_t_seen v2 (v4 + 1) v5 _ _ (hP.sub [3, 0, 4, 1, 2] rfl) (hD.sub [3, 0, 4, 1, 2] (by decide) rfl) hS _ (lv_sub hl [1, 2, 3, 0, 4] rfl) h
  have w54 : ∀ (t_seen_n : Nat) (t_seen : Nat → Int64) (b_t_seen : Nat) (v2 : Int32) (H : Heap) (locs : List Loc), va_P g.2.1 vwCl [((a_t 0), .inr (0, [.ref b_t_rows, .ref b_t_seen, .int t_size, .int t_ready, .int t_pool, .int t_plies, .int t_room])), (b_t_rows, .inl (g.2.2.1 1, t_rows_n, .inr (.inl t_rows))), (b_t_seen, .inl (g.2.2.1 1, t_seen_n, .inr (.inl t_seen))), ((a_p1 0), .inr (1, [.ref (a_p1 1), .ref (a_p1 2), .ref (a_p1 3), .ref (a_p1 4), .ref (a_p1 5), .int p1_told, .int p1_lines, .int p1_kinds, .int p1_acts])), ((a_p1 2), .inl (g.2.2.1 0, 144, .inl p1_cells))] H → va_D A [((a_t 0), .inr (0, [.ref b_t_rows, .ref b_t_seen, .int t_size, .int t_ready, .int t_pool, .int t_plies, .int t_room])), (b_t_rows, .inl (g.2.2.1 1, t_rows_n, .inr (.inl t_rows))), (b_t_seen, .inl (g.2.2.1 1, t_seen_n, .inr (.inl t_seen))), ((a_p1 0), .inr (1, [.ref (a_p1 1), .ref (a_p1 2), .ref (a_p1 3), .ref (a_p1 4), .ref (a_p1 5), .int p1_told, .int p1_lines, .int p1_kinds, .int p1_acts])), ((a_p1 2), .inl (g.2.2.1 0, 144, .inl p1_cells))] → va_S A s.heap H locs → ∀ (ls : Array Slot), lv_has ls 6 [(0, .ref ((a_t 0))), (1, .ref ((a_p1 0))), (2, .int v2)] → fX0_unlikeBends_54 lim0  t_rows_n t_rows t_seen_n t_seen t_size t_plies p1_cells v2 = some (o, o_t_seen_n, o_t_seen) → W p l e ⟨3, 1, lim0, 77⟩ s m args below meth c H locs 1 lim0 Q (F0 m 54 ls []) := by
    intro t_seen_n t_seen b_t_seen v2 H locs hP hD hS ls hl h
    unfold fX0_unlikeBends_54 at h
    have hG := hGk hS
    refine lv_aload_n hx hb dX0_unlikeBends_54 rfl (lv_at hl 0 rfl) ?_
    refine xa_get (C := RX0) (T := TX0) (N := 7) cx hG hP 0 rfl rfl uX0 1 (by decide) lf_X0_15 rfl dX0_unlikeBends_55 ?_
    refine lv_lconst (v := 0) hx hb dX0_unlikeBends_58 (by decide) ?_
    obtain ⟨w6, hr5, h⟩ := bnd h
    refine rw_v (WN := fun u7 => [((a_t 0), .inr (0, [.ref b_t_rows, .ref b_t_seen, .int t_size, .int t_ready, .int t_pool, .int t_plies, .int t_room])), (b_t_rows, .inl (g.2.2.1 1, t_rows_n, .inr (.inl t_rows))), ((a_p1 0), .inr (1, [.ref (a_p1 1), .ref (a_p1 2), .ref (a_p1 3), .ref (a_p1 4), .ref (a_p1 5), .int p1_told, .int p1_lines, .int p1_kinds, .int p1_acts])), ((a_p1 2), .inl (g.2.2.1 0, 144, .inl p1_cells)), (b_t_seen, .inl (g.2.2.1 1, t_seen_n, .inr (.inl w6)))]) (wr := [((a_t 0), .inr (0, [.ref b_t_rows, .ref b_t_seen, .int t_size, .int t_ready, .int t_pool, .int t_plies, .int t_room])), (b_t_rows, .inl (g.2.2.1 1, t_rows_n, .inr (.inl t_rows))), ((a_p1 0), .inr (1, [.ref (a_p1 1), .ref (a_p1 2), .ref (a_p1 3), .ref (a_p1 4), .ref (a_p1 5), .int p1_told, .int p1_lines, .int p1_kinds, .int p1_acts])), ((a_p1 2), .inl (g.2.2.1 0, 144, .inl p1_cells))]) (runS (As := [.ref b_t_seen, .long (0)]) (rest := []) cx hl.1 (ctJ7_fill_d0a16 l g H.size b_t_seen t_seen_n t_seen (0) w6 hr5) kmJ7_fill_d0a16 ksJ7_fill_d0a16 lm_X0_124 ⟨rfl, rfl⟩ ⟨Nat.le_of_ble_eq_true rfl, Nat.le_of_ble_eq_true rfl⟩ (rwS hG (hP.sub [2] rfl) (hD.sub [2] (by decide) rfl) hAb hb0 hS) rfl rfl (Nat.le_of_ble_eq_true rfl) dX0_unlikeBends_59 ⟨Nat.le_of_ble_eq_true rfl, (show (lim0 + 0 : Nat) ≤ lim0 by omega)⟩) hP hD hS hA [2] [0, 1, 3, 4] rfl rfl (by decide) (by decide) (fun _ => rfl) (fun u7 H locs hP hD hS => ?_)
    have hG := hGk hS
    refine lv_iconst (v := 0) hx hb dX0_unlikeBends_62 (by decide) ?_
    refine lv_istore (lv' := [(4, .int (0)), (0, .ref ((a_t 0))), (1, .ref ((a_p1 0))), (2, .int v2)]) hx hb dX0_unlikeBends_63 hl (by decide) rfl (fun ls hl => ?_)
    refine lv_iconst (v := 0) hx hb dX0_unlikeBends_65 (by decide) ?_
    refine lv_istore (lv' := [(5, .int (0)), (4, .int (0)), (0, .ref ((a_t 0))), (1, .ref ((a_p1 0))), (2, .int v2)]) hx hb dX0_unlikeBends_66 hl (by decide) rfl (fun ls hl => ?_)
    exact w68 FU t_seen_n w6 b_t_seen v2 0 0 _ _ (hP.sub [0, 1, 4, 2, 3] rfl) (hD.sub [0, 1, 4, 2, 3] (by decide) rfl) hS _ (lv_sub hl [2, 3, 4, 1, 0] rfl) h
  have w38 : ∀ (t_seen_n : Nat) (t_seen : Nat → Int64) (b_t_seen : Nat) (v2 : Int32) (v3 : Int32) (H : Heap) (locs : List Loc), va_P g.2.1 vwCl [((a_t 0), .inr (0, [.ref b_t_rows, .ref b_t_seen, .int t_size, .int t_ready, .int t_pool, .int t_plies, .int t_room])), (b_t_rows, .inl (g.2.2.1 1, t_rows_n, .inr (.inl t_rows))), (b_t_seen, .inl (g.2.2.1 1, t_seen_n, .inr (.inl t_seen))), ((a_p1 0), .inr (1, [.ref (a_p1 1), .ref (a_p1 2), .ref (a_p1 3), .ref (a_p1 4), .ref (a_p1 5), .int p1_told, .int p1_lines, .int p1_kinds, .int p1_acts])), ((a_p1 2), .inl (g.2.2.1 0, 144, .inl p1_cells))] H → va_D A [((a_t 0), .inr (0, [.ref b_t_rows, .ref b_t_seen, .int t_size, .int t_ready, .int t_pool, .int t_plies, .int t_room])), (b_t_rows, .inl (g.2.2.1 1, t_rows_n, .inr (.inl t_rows))), (b_t_seen, .inl (g.2.2.1 1, t_seen_n, .inr (.inl t_seen))), ((a_p1 0), .inr (1, [.ref (a_p1 1), .ref (a_p1 2), .ref (a_p1 3), .ref (a_p1 4), .ref (a_p1 5), .int p1_told, .int p1_lines, .int p1_kinds, .int p1_acts])), ((a_p1 2), .inl (g.2.2.1 0, 144, .inl p1_cells))] → va_S A s.heap H locs → ∀ (ls : Array Slot), lv_has ls 6 [(0, .ref ((a_t 0))), (1, .ref ((a_p1 0))), (2, .int v2), (3, .int v3)] → fX0_unlikeBends_38 lim0  t_rows_n t_rows t_seen_n t_seen t_size t_plies p1_cells v2 v3 = some (o, o_t_seen_n, o_t_seen) → W p l e ⟨3, 1, lim0, 77⟩ s m args below meth c H locs 0 0 Q (F0 m 38 ls []) := by
    intro t_seen_n t_seen b_t_seen v2 v3 H locs hP hD hS ls hl h
    unfold fX0_unlikeBends_38 at h
    have hG := hGk hS
    refine lv_aload_n hx hb dX0_unlikeBends_38 rfl (lv_at hl 0 rfl) ?_
    refine xa_get (C := RX0) (T := TX0) (N := 7) cx hG hP 0 rfl rfl uX0 1 (by decide) lf_X0_15 rfl dX0_unlikeBends_39 ?_
    refine xa_len cx hG hP 2 rfl 1 rfl (v := nI t_seen_n) rfl dX0_unlikeBends_42 ?_
    refine lv_iload_n hx hb dX0_unlikeBends_43 rfl (lv_at hl 3 rfl) ?_
    refine lv_icmp_ge (tgt := 54) hx hb dX0_unlikeBends_44 (by decide) (fun c3 => ?_) (fun c3 => ?_)
    · have h := itp c3 h
      refine W.widen (k := 1) (n := lim0) (Nat.le_of_ble_eq_true rfl) (show (0 : Nat) ≤ lim0 by omega) ?_
      exact w54 t_seen_n t_seen b_t_seen v2 _ _ hP hD hS _ (lv_sub hl [0, 1, 2] rfl) h
    · have h := itn c3 h
      refine lv_aload_n hx hb dX0_unlikeBends_47 rfl (lv_at hl 0 rfl) ?_
      refine lv_iload_n hx hb dX0_unlikeBends_48 rfl (lv_at hl 3 rfl) ?_
      obtain ⟨hn4, h⟩ := nn_out h
      refine xw_newl (N' := v3.toNatClampNeg) cx hG hP hD hS hA arJ hn4.1 rfl hn4.2.2 (Nat.le_of_ble_eq_true rfl) (show 0 + v3.toNatClampNeg ≤ lim0 by have := hn4.2.1; omega) dX0_unlikeBends_49 (fun q_n49 H hP hD hS => ?_)
      have hP : va_P g.2.1 vwCl [((a_t 0), .inr (0, [.ref b_t_rows, .ref b_t_seen, .int t_size, .int t_ready, .int t_pool, .int t_plies, .int t_room])), (b_t_rows, .inl (g.2.2.1 1, t_rows_n, .inr (.inl t_rows))), (b_t_seen, .inl (g.2.2.1 1, t_seen_n, .inr (.inl t_seen))), ((a_p1 0), .inr (1, [.ref (a_p1 1), .ref (a_p1 2), .ref (a_p1 3), .ref (a_p1 4), .ref (a_p1 5), .int p1_told, .int p1_lines, .int p1_kinds, .int p1_acts])), ((a_p1 2), .inl (g.2.2.1 0, 144, .inl p1_cells)), (q_n49, .inl (g.2.2.1 1, v3.toNatClampNeg, .inr (.inl (fun _ => 0))))] H := hP
      have hD : va_D A [((a_t 0), .inr (0, [.ref b_t_rows, .ref b_t_seen, .int t_size, .int t_ready, .int t_pool, .int t_plies, .int t_room])), (b_t_rows, .inl (g.2.2.1 1, t_rows_n, .inr (.inl t_rows))), (b_t_seen, .inl (g.2.2.1 1, t_seen_n, .inr (.inl t_seen))), ((a_p1 0), .inr (1, [.ref (a_p1 1), .ref (a_p1 2), .ref (a_p1 3), .ref (a_p1 4), .ref (a_p1 5), .int p1_told, .int p1_lines, .int p1_kinds, .int p1_acts])), ((a_p1 2), .inl (g.2.2.1 0, 144, .inl p1_cells)), (q_n49, .inl (g.2.2.1 1, v3.toNatClampNeg, .inr (.inl (fun _ => 0))))] := hD
      have hG := hGk hS
      refine xw_put (C := RX0) (T := TX0) (N := 7) (ty := .array .long) (v := .ref q_n49) (ws' := [((a_t 0), .inr (0, [.ref b_t_rows, .ref q_n49, .int t_size, .int t_ready, .int t_pool, .int t_plies, .int t_room])), (b_t_rows, .inl (g.2.2.1 1, t_rows_n, .inr (.inl t_rows))), (b_t_seen, .inl (g.2.2.1 1, t_seen_n, .inr (.inl t_seen))), ((a_p1 0), .inr (1, [.ref (a_p1 1), .ref (a_p1 2), .ref (a_p1 3), .ref (a_p1 4), .ref (a_p1 5), .int p1_told, .int p1_lines, .int p1_kinds, .int p1_acts])), ((a_p1 2), .inl (g.2.2.1 0, 144, .inl p1_cells)), (q_n49, .inl (g.2.2.1 1, v3.toNatClampNeg, .inr (.inl (fun _ => 0))))]) cx hG hP hD hS 0 rfl rfl uX0 tyX0 tyX0_ok nmX0 1 (by decide) lf_X0_15 rfl (by decide +kernel) rfl rfl (Nat.le_of_ble_eq_true rfl) rfl dX0_unlikeBends_51 (fun H locs hP hD hS => ?_)
      have hP := hP.sub (ws' := [((a_t 0), .inr (0, [.ref b_t_rows, .ref q_n49, .int t_size, .int t_ready, .int t_pool, .int t_plies, .int t_room])), (b_t_rows, .inl (g.2.2.1 1, t_rows_n, .inr (.inl t_rows))), (q_n49, .inl (g.2.2.1 1, v3.toNatClampNeg, .inr (.inl (fun _ => 0)))), ((a_p1 0), .inr (1, [.ref (a_p1 1), .ref (a_p1 2), .ref (a_p1 3), .ref (a_p1 4), .ref (a_p1 5), .int p1_told, .int p1_lines, .int p1_kinds, .int p1_acts])), ((a_p1 2), .inl (g.2.2.1 0, 144, .inl p1_cells))]) [0, 1, 5, 3, 4] rfl
      have hD := hD.sub (ws' := [((a_t 0), .inr (0, [.ref b_t_rows, .ref q_n49, .int t_size, .int t_ready, .int t_pool, .int t_plies, .int t_room])), (b_t_rows, .inl (g.2.2.1 1, t_rows_n, .inr (.inl t_rows))), (q_n49, .inl (g.2.2.1 1, v3.toNatClampNeg, .inr (.inl (fun _ => 0)))), ((a_p1 0), .inr (1, [.ref (a_p1 1), .ref (a_p1 2), .ref (a_p1 3), .ref (a_p1 4), .ref (a_p1 5), .int p1_told, .int p1_lines, .int p1_kinds, .int p1_acts])), ((a_p1 2), .inl (g.2.2.1 0, 144, .inl p1_cells))]) [0, 1, 5, 3, 4] (by decide) rfl
      have hG := hGk hS
      refine W.widen (k := 1) (n := lim0) (Nat.le_of_ble_eq_true rfl) (show (0 + v3.toNatClampNeg : Nat) ≤ lim0 by omega) ?_
      exact w54 v3.toNatClampNeg (fun _ => 0) q_n49 v2 _ _ hP hD hS _ (lv_sub hl [0, 1, 2] rfl) h
  have w6 : ∀ (n : Nat) (t_seen_n : Nat) (t_seen : Nat → Int64) (b_t_seen : Nat) (v2 : Int32) (v3 : Int32) (v4 : Int32) (H : Heap) (locs : List Loc), va_P g.2.1 vwCl [((a_t 0), .inr (0, [.ref b_t_rows, .ref b_t_seen, .int t_size, .int t_ready, .int t_pool, .int t_plies, .int t_room])), (b_t_rows, .inl (g.2.2.1 1, t_rows_n, .inr (.inl t_rows))), (b_t_seen, .inl (g.2.2.1 1, t_seen_n, .inr (.inl t_seen))), ((a_p1 0), .inr (1, [.ref (a_p1 1), .ref (a_p1 2), .ref (a_p1 3), .ref (a_p1 4), .ref (a_p1 5), .int p1_told, .int p1_lines, .int p1_kinds, .int p1_acts])), ((a_p1 2), .inl (g.2.2.1 0, 144, .inl p1_cells))] H → va_D A [((a_t 0), .inr (0, [.ref b_t_rows, .ref b_t_seen, .int t_size, .int t_ready, .int t_pool, .int t_plies, .int t_room])), (b_t_rows, .inl (g.2.2.1 1, t_rows_n, .inr (.inl t_rows))), (b_t_seen, .inl (g.2.2.1 1, t_seen_n, .inr (.inl t_seen))), ((a_p1 0), .inr (1, [.ref (a_p1 1), .ref (a_p1 2), .ref (a_p1 3), .ref (a_p1 4), .ref (a_p1 5), .int p1_told, .int p1_lines, .int p1_kinds, .int p1_acts])), ((a_p1 2), .inl (g.2.2.1 0, 144, .inl p1_cells))] → va_S A s.heap H locs → ∀ (ls : Array Slot), lv_has ls 6 [(0, .ref ((a_t 0))), (1, .ref ((a_p1 0))), (2, .int v2), (3, .int v3), (4, .int v4)] → fX0_unlikeBends_6 lim0  n t_rows_n t_rows t_seen_n t_seen t_size t_plies p1_cells v2 v3 v4 = some (o, o_t_seen_n, o_t_seen) → W p l e ⟨3, 1, lim0, 77⟩ s m args below meth c H locs 0 0 Q (F0 m 6 ls []) := by
    intro n
    induction n with
    | zero => intro t_seen_n t_seen b_t_seen v2 v3 v4 H locs hP hD hS ls hl h; cases (fX0_unlikeBends_6_z lim0  t_rows_n t_rows t_seen_n t_seen t_size t_plies p1_cells v2 v3 v4).symm.trans h
    | succ n ih =>
    intro t_seen_n t_seen b_t_seen v2 v3 v4 H locs hP hD hS ls hl h
    have h := (fX0_unlikeBends_6_s lim0  n t_rows_n t_rows t_seen_n t_seen t_size t_plies p1_cells v2 v3 v4).symm.trans h
    have hG := hGk hS
    refine lv_iload hx hb dX0_unlikeBends_6 (lv_at hl 4 rfl) ?_
    refine lv_bipush (v := 12) hx hb dX0_unlikeBends_8 (by decide) ?_
    refine lv_icmp_ge (tgt := 38) hx hb dX0_unlikeBends_10 (by decide) (fun c1 => ?_) (fun c1 => ?_)
    · have h := itp c1 h
      exact w38 t_seen_n t_seen b_t_seen v2 v3 _ _ hP hD hS _ (lv_sub hl [0, 1, 2, 3] rfl) h
    · have h := itn c1 h
      refine lv_iload_n hx hb dX0_unlikeBends_13 rfl (lv_at hl 3 rfl) ?_
      refine lv_aload_n hx hb dX0_unlikeBends_14 rfl (lv_at hl 0 rfl) ?_
      refine xa_get (C := RX0) (T := TX0) (N := 7) cx hG hP 0 rfl rfl uX0 2 (by decide) lf_X0_49 rfl dX0_unlikeBends_15 ?_
      refine lv_aload_n hx hb dX0_unlikeBends_18 rfl (lv_at hl 0 rfl) ?_
      refine xa_get (C := RX0) (T := TX0) (N := 7) cx hG hP 0 rfl rfl uX0 2 (by decide) lf_X0_49 rfl dX0_unlikeBends_19 ?_
      refine lv_iconst (v := 2) hx hb dX0_unlikeBends_22 (by decide) ?_
      refine lv_idiv hx hb dX0_unlikeBends_23 (by decide) ?_
      refine lv_iadd hx hb dX0_unlikeBends_24 ?_
      refine lv_icmp_ge (tgt := 38) hx hb dX0_unlikeBends_25 (by decide) (fun c2 => ?_) (fun c2 => ?_)
      · have h := itp c2 h
        exact w38 t_seen_n t_seen b_t_seen v2 v3 _ _ hP hD hS _ (lv_sub hl [0, 1, 2, 3] rfl) h
      · have h := itn c2 h
        refine lv_iload_n hx hb dX0_unlikeBends_28 rfl (lv_at hl 3 rfl) ?_
        refine lv_iconst (v := 2) hx hb dX0_unlikeBends_29 (by decide) ?_
        refine lv_imul hx hb dX0_unlikeBends_30 ?_
        refine lv_istore_n (lv' := [(3, .int (v3 * 2)), (0, .ref ((a_t 0))), (1, .ref ((a_p1 0))), (2, .int v2), (4, .int v4)]) hx hb dX0_unlikeBends_31 rfl hl (by decide) rfl (fun ls hl => ?_)
        refine lv_iinc (v := v4 + 1) (lv' := [(4, .int (v4 + 1)), (3, .int (v3 * 2)), (0, .ref ((a_t 0))), (1, .ref ((a_p1 0))), (2, .int v2)]) hx hb dX0_unlikeBends_32 hl (k := 4) rfl rfl (by decide) rfl (fun ls hl => ?_)
        refine lv_goto (tgt := 6) hx hb dX0_unlikeBends_35 (by decide) ?_
        exact ih t_seen_n t_seen b_t_seen v2 (v3 * 2) (v4 + 1) _ _ hP hD hS _ (lv_sub hl [2, 3, 4, 1, 0] rfl) h
  unfold fX0_unlikeBends at h
  refine lv_bipush (v := 32) hx hb dX0_unlikeBends_0 (by decide) ?_
  refine lv_istore_n (lv' := [(3, .int (32)), (0, .ref ((a_t 0))), (1, .ref ((a_p1 0))), (2, .int v2)]) hx hb dX0_unlikeBends_2 rfl hl (by decide) rfl (fun ls hl => ?_)
  refine lv_iconst (v := 0) hx hb dX0_unlikeBends_3 (by decide) ?_
  refine lv_istore (lv' := [(4, .int (0)), (3, .int (32)), (0, .ref ((a_t 0))), (1, .ref ((a_p1 0))), (2, .int v2)]) hx hb dX0_unlikeBends_4 hl (by decide) rfl (fun ls hl => ?_)
  exact w6 FU t_seen_n t_seen b_t_seen v2 32 0 _ _ hP hD hS _ (lv_sub hl [2, 3, 4, 1, 0] rfl) h
-- X4_cellAt
theorem dX4_cellAt_0 : decode cX4_cellAt 0 = .ok (.iload_n 1, 1) := by decide +kernel
theorem dX4_cellAt_1 : decode cX4_cellAt 1 = .ok (.ifCond .lt 17, 3) := by decide +kernel
theorem dX4_cellAt_4 : decode cX4_cellAt 4 = .ok (.iload_n 1, 1) := by decide +kernel
theorem dX4_cellAt_5 : decode cX4_cellAt 5 = .ok (.iconst 2, 1) := by decide +kernel
theorem dX4_cellAt_6 : decode cX4_cellAt 6 = .ok (.if_icmp .gt 12, 3) := by decide +kernel
theorem dX4_cellAt_9 : decode cX4_cellAt 9 = .ok (.iload_n 2, 1) := by decide +kernel
theorem dX4_cellAt_10 : decode cX4_cellAt 10 = .ok (.ifCond .lt 8, 3) := by decide +kernel
theorem dX4_cellAt_13 : decode cX4_cellAt 13 = .ok (.iload_n 2, 1) := by decide +kernel
theorem dX4_cellAt_14 : decode cX4_cellAt 14 = .ok (.iconst 2, 1) := by decide +kernel
theorem dX4_cellAt_15 : decode cX4_cellAt 15 = .ok (.if_icmp .le 7, 3) := by decide +kernel
theorem dX4_cellAt_18 : decode cX4_cellAt 18 = .ok (.lconst 0, 1) := by decide +kernel
theorem dX4_cellAt_19 : decode cX4_cellAt 19 = .ok (.goto 13, 3) := by decide +kernel
theorem dX4_cellAt_22 : decode cX4_cellAt 22 = .ok (.aload_n 0, 1) := by decide +kernel
theorem dX4_cellAt_23 : decode cX4_cellAt 23 = .ok (.getfield 9, 3) := by decide +kernel
theorem dX4_cellAt_26 : decode cX4_cellAt 26 = .ok (.iconst 3, 1) := by decide +kernel
theorem dX4_cellAt_27 : decode cX4_cellAt 27 = .ok (.iload_n 1, 1) := by decide +kernel
theorem dX4_cellAt_28 : decode cX4_cellAt 28 = .ok (.imul, 1) := by decide +kernel
theorem dX4_cellAt_29 : decode cX4_cellAt 29 = .ok (.iload_n 2, 1) := by decide +kernel
theorem dX4_cellAt_30 : decode cX4_cellAt 30 = .ok (.iadd, 1) := by decide +kernel
theorem dX4_cellAt_31 : decode cX4_cellAt 31 = .ok (.laload, 1) := by decide +kernel
theorem dX4_cellAt_32 : decode cX4_cellAt 32 = .ok (.lreturn, 1) := by decide +kernel
noncomputable def fX4_cellAt  (t_cells : Nat → Int64) (v1 : Int32) (v2 : Int32) : Option (Int64) := (if v1 < 0 then some (0) else (if 2 < v1 then some (0) else (if v2 < 0 then some (0) else (if v2 ≤ 2 then chk 9 ((3 * v1) + v2) (some (t_cells ((3 * v1) + v2).toNatClampNeg)) else some (0)))))
set_option maxHeartbeats 4000000 in
set_option maxRecDepth 100000 in
theorem ctX4_cellAt (l : Launch) (g : GT) (a_t : Nat → Nat) (t_det : Int64) (t_cells : Nat → Int64) (v1 : Int32) (v2 : Int32) (o : Int64) (h : fX4_cellAt t_cells v1 v2 = some o) : Met l yX4_cellAt (Cond.code yX4_cellAt cX4_cellAt 3 (some .long) :: Tw) ⟨0, 0, 0, 0⟩ (va_Pc [.ref ((a_t 0)), .int v1, .int v2] (roB g [((a_t 0), .inr (3, [.ref (a_t 1), .ref (a_t 2), .long t_det])), ((a_t 1), .inl (g.2.2.1 1, 9, .inr (.inl t_cells)))])) (vp_Sl (fun x => x = o)) 0 0 (fun _ => False) := by
  refine ro_metl (by decide) (Nat.le_of_ble_eq_true rfl) (lv0 := [(0, .ref ((a_t 0))), (1, .int v1), (2, .int v2)]) rfl ?_
  intro p e s m args below meth c ls Q cx hret hG hP hl
  have hx := cx.1
  have hb := cx.2.1
  have hG0 := hG
  unfold fX4_cellAt at h
  refine lv_iload_n hx hb dX4_cellAt_0 rfl (lv_at hl 1 rfl) ?_
  refine lv_if_lt (tgt := 18) hx hb dX4_cellAt_1 (by decide) (fun c1 => ?_) (fun c1 => ?_)
  · have h := itp c1 h
    refine lv_lconst (v := 0) hx hb dX4_cellAt_18 (by decide) ?_
    refine lv_goto (tgt := 32) hx hb dX4_cellAt_19 (by decide) ?_
    exact hret _ _ _ dX4_cellAt_32 (Option.some.inj h)
  · have h := itn c1 h
    refine lv_iload_n hx hb dX4_cellAt_4 rfl (lv_at hl 1 rfl) ?_
    refine lv_iconst (v := 2) hx hb dX4_cellAt_5 (by decide) ?_
    refine lv_icmp_gt (tgt := 18) hx hb dX4_cellAt_6 (by decide) (fun c2 => ?_) (fun c2 => ?_)
    · have h := itp c2 h
      refine lv_lconst (v := 0) hx hb dX4_cellAt_18 (by decide) ?_
      refine lv_goto (tgt := 32) hx hb dX4_cellAt_19 (by decide) ?_
      exact hret _ _ _ dX4_cellAt_32 (Option.some.inj h)
    · have h := itn c2 h
      refine lv_iload_n hx hb dX4_cellAt_9 rfl (lv_at hl 2 rfl) ?_
      refine lv_if_lt (tgt := 18) hx hb dX4_cellAt_10 (by decide) (fun c3 => ?_) (fun c3 => ?_)
      · have h := itp c3 h
        refine lv_lconst (v := 0) hx hb dX4_cellAt_18 (by decide) ?_
        refine lv_goto (tgt := 32) hx hb dX4_cellAt_19 (by decide) ?_
        exact hret _ _ _ dX4_cellAt_32 (Option.some.inj h)
      · have h := itn c3 h
        refine lv_iload_n hx hb dX4_cellAt_13 rfl (lv_at hl 2 rfl) ?_
        refine lv_iconst (v := 2) hx hb dX4_cellAt_14 (by decide) ?_
        refine lv_icmp_le (tgt := 22) hx hb dX4_cellAt_15 (by decide) (fun c4 => ?_) (fun c4 => ?_)
        · have h := itp c4 h
          refine lv_aload_n hx hb dX4_cellAt_22 rfl (lv_at hl 0 rfl) ?_
          refine xa_get (C := RX4) (T := TX4) (N := 3) cx hG hP 0 rfl rfl uX4 0 (by decide) lf_X4_9 rfl dX4_cellAt_23 ?_
          refine lv_iconst (v := 3) hx hb dX4_cellAt_26 (by decide) ?_
          refine lv_iload_n hx hb dX4_cellAt_27 rfl (lv_at hl 1 rfl) ?_
          refine lv_imul hx hb dX4_cellAt_28 ?_
          refine lv_iload_n hx hb dX4_cellAt_29 rfl (lv_at hl 2 rfl) ?_
          refine lv_iadd hx hb dX4_cellAt_30 ?_
          obtain ⟨hi5, h⟩ := chk_out h
          refine xa_lald cx hG hP 1 rfl hi5 rfl dX4_cellAt_31 ?_
          exact hret _ _ _ dX4_cellAt_32 (Option.some.inj h)
        · have h := itn c4 h
          refine lv_lconst (v := 0) hx hb dX4_cellAt_18 (by decide) ?_
          refine lv_goto (tgt := 32) hx hb dX4_cellAt_19 (by decide) ?_
          exact hret _ _ _ dX4_cellAt_32 (Option.some.inj h)
-- X4_cofactor
theorem dX4_cofactor_0 : decode cX4_cofactor 0 = .ok (.iload_n 1, 1) := by decide +kernel
theorem dX4_cofactor_1 : decode cX4_cofactor 1 = .ok (.iconst 1, 1) := by decide +kernel
theorem dX4_cofactor_2 : decode cX4_cofactor 2 = .ok (.iadd, 1) := by decide +kernel
theorem dX4_cofactor_3 : decode cX4_cofactor 3 = .ok (.iconst 3, 1) := by decide +kernel
theorem dX4_cofactor_4 : decode cX4_cofactor 4 = .ok (.irem, 1) := by decide +kernel
theorem dX4_cofactor_5 : decode cX4_cofactor 5 = .ok (.istore_n 3, 1) := by decide +kernel
theorem dX4_cofactor_6 : decode cX4_cofactor 6 = .ok (.iload_n 1, 1) := by decide +kernel
theorem dX4_cofactor_7 : decode cX4_cofactor 7 = .ok (.iconst 2, 1) := by decide +kernel
theorem dX4_cofactor_8 : decode cX4_cofactor 8 = .ok (.iadd, 1) := by decide +kernel
theorem dX4_cofactor_9 : decode cX4_cofactor 9 = .ok (.iconst 3, 1) := by decide +kernel
theorem dX4_cofactor_10 : decode cX4_cofactor 10 = .ok (.irem, 1) := by decide +kernel
theorem dX4_cofactor_11 : decode cX4_cofactor 11 = .ok (.istore 4, 2) := by decide +kernel
theorem dX4_cofactor_13 : decode cX4_cofactor 13 = .ok (.iload_n 2, 1) := by decide +kernel
theorem dX4_cofactor_14 : decode cX4_cofactor 14 = .ok (.iconst 1, 1) := by decide +kernel
theorem dX4_cofactor_15 : decode cX4_cofactor 15 = .ok (.iadd, 1) := by decide +kernel
theorem dX4_cofactor_16 : decode cX4_cofactor 16 = .ok (.iconst 3, 1) := by decide +kernel
theorem dX4_cofactor_17 : decode cX4_cofactor 17 = .ok (.irem, 1) := by decide +kernel
theorem dX4_cofactor_18 : decode cX4_cofactor 18 = .ok (.istore 5, 2) := by decide +kernel
theorem dX4_cofactor_20 : decode cX4_cofactor 20 = .ok (.iload_n 2, 1) := by decide +kernel
theorem dX4_cofactor_21 : decode cX4_cofactor 21 = .ok (.iconst 2, 1) := by decide +kernel
theorem dX4_cofactor_22 : decode cX4_cofactor 22 = .ok (.iadd, 1) := by decide +kernel
theorem dX4_cofactor_23 : decode cX4_cofactor 23 = .ok (.iconst 3, 1) := by decide +kernel
theorem dX4_cofactor_24 : decode cX4_cofactor 24 = .ok (.irem, 1) := by decide +kernel
theorem dX4_cofactor_25 : decode cX4_cofactor 25 = .ok (.istore 6, 2) := by decide +kernel
theorem dX4_cofactor_27 : decode cX4_cofactor 27 = .ok (.aload_n 0, 1) := by decide +kernel
theorem dX4_cofactor_28 : decode cX4_cofactor 28 = .ok (.iload_n 3, 1) := by decide +kernel
theorem dX4_cofactor_29 : decode cX4_cofactor 29 = .ok (.iload 5, 2) := by decide +kernel
theorem dX4_cofactor_31 : decode cX4_cofactor 31 = .ok (.invokevirtual 32, 3) := by decide +kernel
theorem dX4_cofactor_34 : decode cX4_cofactor 34 = .ok (.aload_n 0, 1) := by decide +kernel
theorem dX4_cofactor_35 : decode cX4_cofactor 35 = .ok (.iload 4, 2) := by decide +kernel
theorem dX4_cofactor_37 : decode cX4_cofactor 37 = .ok (.iload 6, 2) := by decide +kernel
theorem dX4_cofactor_39 : decode cX4_cofactor 39 = .ok (.invokevirtual 32, 3) := by decide +kernel
theorem dX4_cofactor_42 : decode cX4_cofactor 42 = .ok (.lmul, 1) := by decide +kernel
theorem dX4_cofactor_43 : decode cX4_cofactor 43 = .ok (.aload_n 0, 1) := by decide +kernel
theorem dX4_cofactor_44 : decode cX4_cofactor 44 = .ok (.iload_n 3, 1) := by decide +kernel
theorem dX4_cofactor_45 : decode cX4_cofactor 45 = .ok (.iload 6, 2) := by decide +kernel
theorem dX4_cofactor_47 : decode cX4_cofactor 47 = .ok (.invokevirtual 32, 3) := by decide +kernel
theorem dX4_cofactor_50 : decode cX4_cofactor 50 = .ok (.aload_n 0, 1) := by decide +kernel
theorem dX4_cofactor_51 : decode cX4_cofactor 51 = .ok (.iload 4, 2) := by decide +kernel
theorem dX4_cofactor_53 : decode cX4_cofactor 53 = .ok (.iload 5, 2) := by decide +kernel
theorem dX4_cofactor_55 : decode cX4_cofactor 55 = .ok (.invokevirtual 32, 3) := by decide +kernel
theorem dX4_cofactor_58 : decode cX4_cofactor 58 = .ok (.lmul, 1) := by decide +kernel
theorem dX4_cofactor_59 : decode cX4_cofactor 59 = .ok (.lsub, 1) := by decide +kernel
theorem dX4_cofactor_60 : decode cX4_cofactor 60 = .ok (.lreturn, 1) := by decide +kernel
noncomputable def fX4_cofactor  (t_cells : Nat → Int64) (v1 : Int32) (v2 : Int32) : Option (Int64) := (fX4_cellAt t_cells (irem (v1 + 1) 3) (irem (v2 + 1) 3)).bind fun r1 => (fX4_cellAt t_cells (irem (v1 + 2) 3) (irem (v2 + 2) 3)).bind fun r3 => (fX4_cellAt t_cells (irem (v1 + 1) 3) (irem (v2 + 2) 3)).bind fun r5 => (fX4_cellAt t_cells (irem (v1 + 2) 3) (irem (v2 + 1) 3)).bind fun r7 => some ((r1 * r3) - (r5 * r7))
set_option maxHeartbeats 4000000 in
set_option maxRecDepth 100000 in
theorem ctX4_cofactor (l : Launch) (g : GT) (a_t : Nat → Nat) (t_det : Int64) (t_cells : Nat → Int64) (v1 : Int32) (v2 : Int32) (o : Int64) (h : fX4_cofactor t_cells v1 v2 = some o) : Met l yX4_cofactor (Cond.code yX4_cofactor cX4_cofactor 7 (some .long) :: Tw) ⟨1, 0, 0, 22⟩ (va_Pc [.ref ((a_t 0)), .int v1, .int v2] (roB g [((a_t 0), .inr (3, [.ref (a_t 1), .ref (a_t 2), .long t_det])), ((a_t 1), .inl (g.2.2.1 1, 9, .inr (.inl t_cells)))])) (vp_Sl (fun x => x = o)) 0 0 (fun _ => False) := by
  refine ro_metl (by decide) (Nat.le_of_ble_eq_true rfl) (lv0 := [(0, .ref ((a_t 0))), (1, .int v1), (2, .int v2)]) rfl ?_
  intro p e s m args below meth c ls Q cx hret hG hP hl
  have hx := cx.1
  have hb := cx.2.1
  have hG0 := hG
  unfold fX4_cofactor at h
  refine lv_iload_n hx hb dX4_cofactor_0 rfl (lv_at hl 1 rfl) ?_
  refine lv_iconst (v := 1) hx hb dX4_cofactor_1 (by decide) ?_
  refine lv_iadd hx hb dX4_cofactor_2 ?_
  refine lv_iconst (v := 3) hx hb dX4_cofactor_3 (by decide) ?_
  refine xv_irem hx hb dX4_cofactor_4 (by decide) ?_
  refine lv_istore_n (lv' := [(3, .int (irem (v1 + 1) 3)), (0, .ref ((a_t 0))), (1, .int v1), (2, .int v2)]) hx hb dX4_cofactor_5 rfl hl (by decide) rfl (fun ls hl => ?_)
  refine lv_iload_n hx hb dX4_cofactor_6 rfl (lv_at hl 2 rfl) ?_
  refine lv_iconst (v := 2) hx hb dX4_cofactor_7 (by decide) ?_
  refine lv_iadd hx hb dX4_cofactor_8 ?_
  refine lv_iconst (v := 3) hx hb dX4_cofactor_9 (by decide) ?_
  refine xv_irem hx hb dX4_cofactor_10 (by decide) ?_
  refine lv_istore (lv' := [(4, .int (irem (v1 + 2) 3)), (3, .int (irem (v1 + 1) 3)), (0, .ref ((a_t 0))), (1, .int v1), (2, .int v2)]) hx hb dX4_cofactor_11 hl (by decide) rfl (fun ls hl => ?_)
  refine lv_iload_n hx hb dX4_cofactor_13 rfl (lv_at hl 4 rfl) ?_
  refine lv_iconst (v := 1) hx hb dX4_cofactor_14 (by decide) ?_
  refine lv_iadd hx hb dX4_cofactor_15 ?_
  refine lv_iconst (v := 3) hx hb dX4_cofactor_16 (by decide) ?_
  refine xv_irem hx hb dX4_cofactor_17 (by decide) ?_
  refine lv_istore (lv' := [(5, .int (irem (v2 + 1) 3)), (4, .int (irem (v1 + 2) 3)), (3, .int (irem (v1 + 1) 3)), (0, .ref ((a_t 0))), (1, .int v1), (2, .int v2)]) hx hb dX4_cofactor_18 hl (by decide) rfl (fun ls hl => ?_)
  refine lv_iload_n hx hb dX4_cofactor_20 rfl (lv_at hl 5 rfl) ?_
  refine lv_iconst (v := 2) hx hb dX4_cofactor_21 (by decide) ?_
  refine lv_iadd hx hb dX4_cofactor_22 ?_
  refine lv_iconst (v := 3) hx hb dX4_cofactor_23 (by decide) ?_
  refine xv_irem hx hb dX4_cofactor_24 (by decide) ?_
  refine lv_istore (lv' := [(6, .int (irem (v2 + 2) 3)), (5, .int (irem (v2 + 1) 3)), (4, .int (irem (v1 + 2) 3)), (3, .int (irem (v1 + 1) 3)), (0, .ref ((a_t 0))), (1, .int v1), (2, .int v2)]) hx hb dX4_cofactor_25 hl (by decide) rfl (fun ls hl => ?_)
  refine lv_aload_n hx hb dX4_cofactor_27 rfl (lv_at hl 4 rfl) ?_
  refine lv_iload_n hx hb dX4_cofactor_28 rfl (lv_at hl 3 rfl) ?_
  refine lv_iload hx hb dX4_cofactor_29 (lv_at hl 1 rfl) ?_
  obtain ⟨r1, hr2, h⟩ := bnd h
  refine ro_l (runV (As := [.int (irem (v1 + 1) 3), .int (irem (v2 + 1) 3)]) (rest := []) cx hl.1 (ctX4_cellAt l g a_t t_det t_cells (irem (v1 + 1) 3) (irem (v2 + 1) 3) r1 hr2) kmX4_cellAt kvX4_cellAt lm_X4_32 ⟨rfl, rfl⟩ ⟨Nat.le_of_ble_eq_true rfl, Nat.le_of_ble_eq_true rfl⟩ (roV (q0 := 0) (ci := 3) hG (hP.sub [0, 1] rfl) hP rfl rfl) rfl rfl (Nat.le_of_ble_eq_true rfl) dX4_cofactor_31 ⟨Nat.le_of_ble_eq_true rfl, Nat.le_of_ble_eq_true rfl⟩) ?_
  refine lv_aload_n hx hb dX4_cofactor_34 rfl (lv_at hl 4 rfl) ?_
  refine lv_iload hx hb dX4_cofactor_35 (lv_at hl 2 rfl) ?_
  refine lv_iload hx hb dX4_cofactor_37 (lv_at hl 0 rfl) ?_
  obtain ⟨r3, hr4, h⟩ := bnd h
  refine ro_l (runV (As := [.int (irem (v1 + 2) 3), .int (irem (v2 + 2) 3)]) (rest := [.long r1]) cx hl.1 (ctX4_cellAt l g a_t t_det t_cells (irem (v1 + 2) 3) (irem (v2 + 2) 3) r3 hr4) kmX4_cellAt kvX4_cellAt lm_X4_32 ⟨rfl, rfl⟩ ⟨Nat.le_of_ble_eq_true rfl, Nat.le_of_ble_eq_true rfl⟩ (roV (q0 := 0) (ci := 3) hG (hP.sub [0, 1] rfl) hP rfl rfl) rfl rfl (Nat.le_of_ble_eq_true rfl) dX4_cofactor_39 ⟨Nat.le_of_ble_eq_true rfl, Nat.le_of_ble_eq_true rfl⟩) ?_
  refine lv_lmul hx hb dX4_cofactor_42 ?_
  refine lv_aload_n hx hb dX4_cofactor_43 rfl (lv_at hl 4 rfl) ?_
  refine lv_iload_n hx hb dX4_cofactor_44 rfl (lv_at hl 3 rfl) ?_
  refine lv_iload hx hb dX4_cofactor_45 (lv_at hl 0 rfl) ?_
  obtain ⟨r5, hr6, h⟩ := bnd h
  refine ro_l (runV (As := [.int (irem (v1 + 1) 3), .int (irem (v2 + 2) 3)]) (rest := [.long (r1 * r3)]) cx hl.1 (ctX4_cellAt l g a_t t_det t_cells (irem (v1 + 1) 3) (irem (v2 + 2) 3) r5 hr6) kmX4_cellAt kvX4_cellAt lm_X4_32 ⟨rfl, rfl⟩ ⟨Nat.le_of_ble_eq_true rfl, Nat.le_of_ble_eq_true rfl⟩ (roV (q0 := 0) (ci := 3) hG (hP.sub [0, 1] rfl) hP rfl rfl) rfl rfl (Nat.le_of_ble_eq_true rfl) dX4_cofactor_47 ⟨Nat.le_of_ble_eq_true rfl, Nat.le_of_ble_eq_true rfl⟩) ?_
  refine lv_aload_n hx hb dX4_cofactor_50 rfl (lv_at hl 4 rfl) ?_
  refine lv_iload hx hb dX4_cofactor_51 (lv_at hl 2 rfl) ?_
  refine lv_iload hx hb dX4_cofactor_53 (lv_at hl 1 rfl) ?_
  obtain ⟨r7, hr8, h⟩ := bnd h
  refine ro_l (runV (As := [.int (irem (v1 + 2) 3), .int (irem (v2 + 1) 3)]) (rest := [.long r5, .long (r1 * r3)]) cx hl.1 (ctX4_cellAt l g a_t t_det t_cells (irem (v1 + 2) 3) (irem (v2 + 1) 3) r7 hr8) kmX4_cellAt kvX4_cellAt lm_X4_32 ⟨rfl, rfl⟩ ⟨Nat.le_of_ble_eq_true rfl, Nat.le_of_ble_eq_true rfl⟩ (roV (q0 := 0) (ci := 3) hG (hP.sub [0, 1] rfl) hP rfl rfl) rfl rfl (Nat.le_of_ble_eq_true rfl) dX4_cofactor_55 ⟨Nat.le_of_ble_eq_true rfl, Nat.le_of_ble_eq_true rfl⟩) ?_
  refine lv_lmul hx hb dX4_cofactor_58 ?_
  refine lv_lsub hx hb dX4_cofactor_59 ?_
  exact hret _ _ _ dX4_cofactor_60 (Option.some.inj h)
